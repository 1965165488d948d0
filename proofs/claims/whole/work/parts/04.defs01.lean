def m_DE_fixedCode (F : Nat) (x0 : Int32) : Option (Int32) :=
(if (144 : Int32) ≤ x0 then
(if (256 : Int32) ≤ x0 then
(if (280 : Int32) ≤ x0 then
some (((192 : Int32) + x0) - (280 : Int32))
else
some (x0 - (256 : Int32)))
else
some (((400 : Int32) + x0) - (144 : Int32)))
else
some ((48 : Int32) + x0))
def m_Writer_putLiteral (F : Nat) (p1_literals_length : Nat → Int32) (t_bitCount : Int32) (t_came t_literalCode : Nat → Int32) (x2 x3 : Int32) : Option (Int32 × (Nat → Int32)) :=
(if x2 = (0 : Int32) then
bnd1 (m_DE_fixedCode F x3) fun r1 =>
bnd1 (m_DE_fixedLength F x3) fun r2 =>
bnd2 (m_Writer_putCode F t_bitCount t_came r1 r2) fun t_bitCount_1 t_came1 =>
some (t_bitCount_1, t_came1)
else
chk (inb x3 286) <| chk (inb x3 286) <| bnd2 (m_Writer_putCode F t_bitCount t_came (t_literalCode x3.toNatClampNeg) (p1_literals_length x3.toNatClampNeg)) fun t_bitCount_2 t_came2 =>
some (t_bitCount_2, t_came2))
def m_Writer_putMatch (F : Nat) (p1_distances_length p1_literals_length : Nat → Int32) (t_bitCount : Int32) (t_came t_distanceCode t_literalCode : Nat → Int32) (x2 x3 x4 : Int32) : Option (Int32 × (Nat → Int32)) :=
bnd1 (m_DE_lengthSymbol F x3) fun r1 =>
bnd2 (m_Writer_putLiteral F p1_literals_length t_bitCount t_came t_literalCode x2 r1) fun t_bitCount_1 t_came1 =>
chk (inb ((r1 - (256 : Int32)) - (1 : Int32)) (tn 0)) <| bnd1 (m_DE_literalExtra F r1) fun r2 =>
bnd2 (m_Writer_putBits F t_bitCount_1 t_came1 (x3 - (tb 0 ((r1 - (256 : Int32)) - (1 : Int32)).toNatClampNeg)) r2) fun t_bitCount_2 t_came2 =>
bnd1 (m_DE_distanceSymbol F x4) fun r3 =>
bnd2 (if x2 = (0 : Int32) then
bnd2 (m_Writer_putCode F t_bitCount_2 t_came2 r3 (5 : Int32)) fun t_bitCount_3 t_came4 =>
some (t_bitCount_3, t_came4)
else
chk (inb r3 30) <| chk (inb r3 30) <| bnd2 (m_Writer_putCode F t_bitCount_2 t_came2 (t_distanceCode r3.toNatClampNeg) (p1_distances_length r3.toNatClampNeg)) fun t_bitCount_4 t_came5 =>
some (t_bitCount_4, t_came5)) fun z1 t_came3 =>
chk (inb r3 (tn 2)) <| chk (inb r3 (tn 3)) <| bnd2 (m_Writer_putBits F z1 t_came3 (x4 - (tb 2 r3.toNatClampNeg)) (tb 3 r3.toNatClampNeg)) fun t_bitCount_5 t_came6 =>
some (t_bitCount_5, t_came6)
def B_Writer_putCoded_88 (F : Nat) (p1_distances_length p1_literals_length : Nat → Int32) (p1_size : Int32) (p1_token t_distanceCode1 t_literalCode1 : Nat → Int32) (z1 : Int32) (rec : Int32 → Int32 → (Nat → Int32) → Option (Int32 × Int32 × (Nat → Int32))) (v5_1 t_bitCount_4 : Int32) (t_came5 : Nat → Int32) : Option (Int32 × Int32 × (Nat → Int32)) :=
(if p1_size ≤ v5_1 then
some (v5_1, t_bitCount_4, t_came5)
else
chk (inb v5_1 512) <| nm (p1_token v5_1.toNatClampNeg) fun y1 => bnd1 (m_DE_tokenLength F y1) fun r1 =>
bnd2 (if r1 = (0 : Int32) then
bnd2 (m_Writer_putLiteral F p1_literals_length t_bitCount_4 t_came5 t_literalCode1 z1 y1) fun t_bitCount_6 t_came8 =>
some (t_bitCount_6, t_came8)
else
bnd1 (m_DE_tokenLength F y1) fun r2 =>
bnd1 (m_DE_tokenDistance F y1) fun r3 =>
bnd2 (m_Writer_putMatch F p1_distances_length p1_literals_length t_bitCount_4 t_came5 t_distanceCode1 t_literalCode1 z1 r2 r3) fun t_bitCount_7 t_came9 =>
some (t_bitCount_7, t_came9)) fun z3 t_came7 =>
nm (v5_1 + Int32.ofInt (1)) fun y2 => rec y2 z3 t_came7)
def L_Writer_putCoded_88 (F : Nat) (p1_distances_length p1_literals_length : Nat → Int32) (p1_size : Int32) (p1_token t_distanceCode1 t_literalCode1 : Nat → Int32) (z1 : Int32) : Nat → Int32 → Int32 → (Nat → Int32) → Option (Int32 × Int32 × (Nat → Int32))
  | 0 => fun _ _ _ => none
  | f + 1 => fun v5_1 t_bitCount_4 t_came5 => B_Writer_putCoded_88 F p1_distances_length p1_literals_length p1_size p1_token t_distanceCode1 t_literalCode1 z1 (L_Writer_putCoded_88 F p1_distances_length p1_literals_length p1_size p1_token t_distanceCode1 t_literalCode1 z1 f) v5_1 t_bitCount_4 t_came5
def m_Writer_putCoded (F : Nat) (p1_distances_length : Nat → Int32) (p1_kind : Int32) (p1_literals_length : Nat → Int32) (p1_size : Int32) (p1_token p2_code_length : Nat → Int32) (p2_distances p2_literals : Int32) (p2_row : Nat → Int32) (p2_size p2_toldOfCode t_bitCount : Int32) (t_came t_distanceCode t_lengthCode t_literalCode t_next : Nat → Int32) (x3 : Int32) : Option (Int32 × (Nat → Int32) × (Nat → Int32) × (Nat → Int32) × (Nat → Int32) × (Nat → Int32)) :=
bnd2 (m_Writer_putBits F t_bitCount t_came x3 (1 : Int32)) fun t_bitCount_1 t_came1 =>
bnd2 (m_Writer_putBits F t_bitCount_1 t_came1 p1_kind (2 : Int32)) fun t_bitCount_2 t_came2 =>
bnd1 (if p1_kind = (2 : Int32) then
some (1 : Int32)
else
some (0 : Int32)) fun z1 =>
bnd6 (if z1 = (0 : Int32) then
some (t_bitCount_2, t_came2, t_distanceCode, t_lengthCode, t_literalCode, t_next)
else
bnd2 (m_Writer_giveCodes F 286 286 p1_literals_length t_literalCode t_next) fun t_literalCode2 t_next2 =>
bnd2 (m_Writer_giveCodes F 30 30 p1_distances_length t_distanceCode t_next2) fun t_distanceCode2 t_next3 =>
bnd2 (m_Writer_giveCodes F 19 19 p2_code_length t_lengthCode t_next3) fun t_lengthCode2 t_next4 =>
bnd2 (m_Writer_putRow F p2_code_length p2_distances p2_literals p2_row p2_size p2_toldOfCode t_bitCount_2 t_came2 t_lengthCode2) fun t_bitCount_3 t_came4 =>
some (t_bitCount_3, t_came4, t_distanceCode2, t_lengthCode2, t_literalCode2, t_next4)) fun z2 t_came3 t_distanceCode1 t_lengthCode1 t_literalCode1 t_next1 =>
bnd3 (L_Writer_putCoded_88 F p1_distances_length p1_literals_length p1_size p1_token t_distanceCode1 t_literalCode1 z1 F (0 : Int32) z2 t_came3) fun v5_3 t_bitCount_8 t_came10 =>
bnd2 (m_Writer_putLiteral F p1_literals_length t_bitCount_8 t_came10 t_literalCode1 z1 (256 : Int32)) fun t_bitCount_9 t_came11 =>
some (t_bitCount_9, t_came11, t_distanceCode1, t_lengthCode1, t_literalCode1, t_next1)
def m_DE_isByte (F : Nat) (x0 : Int32) : Option (Int32) :=
(if x0 < (0 : Int32) then
some (0 : Int32)
else
(if (255 : Int32) < x0 then
some (0 : Int32)
else
some (1 : Int32)))
def B_DE_deflate_28 (F : Nat) (t_cutter_best_from1 t_cutter_best_kind1 t_cutter_best_size1 t_cutter_best_to1 : Nat → Int32) (t_cutter_best_token1 : Nat → Nat → Int32) (t_cutter_taken1 : Nat → Int32) (t_cutter_takenCount_1 : Int32) (t_fed : Nat → Int32) (rec : Int32 → Int32 → Int32 → Int32 → Int32 → (Nat → Int32) → (Nat → Int32) → (Nat → Int32) → (Nat → Int32) → (Nat → Int32) → (Nat → Int32) → (Nat → Int32) → (Nat → Int32) → Int32 → Int32 → Int32 → Int32 → (Nat → Int32) → (Nat → Int32) → (Nat → Int32) → Int32 → (Nat → Int32) → (Nat → Int32) → (Nat → Int32) → (Nat → Int32) → (Nat → Int32) → Option (Int32 × Int32 × Int32 × Int32 × Int32 × (Nat → Int32) × (Nat → Int32) × (Nat → Int32) × (Nat → Int32) × (Nat → Int32) × (Nat → Int32) × (Nat → Int32) × (Nat → Int32) × Int32 × Int32 × Int32 × Int32 × (Nat → Int32) × (Nat → Int32) × (Nat → Int32) × Int32 × (Nat → Int32) × (Nat → Int32) × (Nat → Int32) × (Nat → Int32) × (Nat → Int32))) (v2_1 t_cutter_hand_size_2 t_cutter_hand_matches_2 t_cutter_hand_kind_2 t_cutter_hand_bits_2 : Int32) (t_cutter_hand_distances_count2 t_cutter_hand_distances_length2 t_cutter_hand_literals_count2 t_cutter_hand_literals_length2 t_cutter_hand_token2 t_cutter_joiner_above2 t_cutter_joiner_order2 t_cutter_joiner_weight2 : Nat → Int32) (t_cutter_row_size_2 t_cutter_row_literals_2 t_cutter_row_distances_2 t_cutter_row_toldOfCode_2 : Int32) (t_cutter_row_code_count2 t_cutter_row_code_length2 t_cutter_row_row2 : Nat → Int32) (t_writer_bitCount_2 : Int32) (t_writer_came2 t_writer_distanceCode1 t_writer_lengthCode1 t_writer_literalCode1 t_writer_next1 : Nat → Int32) : Option (Int32 × Int32 × Int32 × Int32 × Int32 × (Nat → Int32) × (Nat → Int32) × (Nat → Int32) × (Nat → Int32) × (Nat → Int32) × (Nat → Int32) × (Nat → Int32) × (Nat → Int32) × Int32 × Int32 × Int32 × Int32 × (Nat → Int32) × (Nat → Int32) × (Nat → Int32) × Int32 × (Nat → Int32) × (Nat → Int32) × (Nat → Int32) × (Nat → Int32) × (Nat → Int32)) :=
(if t_cutter_takenCount_1 ≤ v2_1 then
some (v2_1, t_cutter_hand_size_2, t_cutter_hand_matches_2, t_cutter_hand_kind_2, t_cutter_hand_bits_2, t_cutter_hand_distances_count2, t_cutter_hand_distances_length2, t_cutter_hand_literals_count2, t_cutter_hand_literals_length2, t_cutter_hand_token2, t_cutter_joiner_above2, t_cutter_joiner_order2, t_cutter_joiner_weight2, t_cutter_row_size_2, t_cutter_row_literals_2, t_cutter_row_distances_2, t_cutter_row_toldOfCode_2, t_cutter_row_code_count2, t_cutter_row_code_length2, t_cutter_row_row2, t_writer_bitCount_2, t_writer_came2, t_writer_distanceCode1, t_writer_lengthCode1, t_writer_literalCode1, t_writer_next1)
else
bnd1 (m_Cutter_takenBlock F t_cutter_taken1 v2_1) fun j1 =>
chk (decide (j1 < 4)) <| bnd1 (if (v2_1 + (1 : Int32)) = t_cutter_takenCount_1 then
some (1 : Int32)
else
some (0 : Int32)) fun z1 =>
bnd25 (if (t_cutter_best_kind1 j1) = (0 : Int32) then
bnd2 (m_Writer_putStored F 512 t_fed t_writer_bitCount_2 t_writer_came2 (t_cutter_best_from1 j1) (t_cutter_best_to1 j1) z1) fun t_writer_bitCount_4 t_writer_came5 =>
some (t_cutter_hand_size_2, t_cutter_hand_matches_2, t_cutter_hand_kind_2, t_cutter_hand_bits_2, t_cutter_hand_distances_count2, t_cutter_hand_distances_length2, t_cutter_hand_literals_count2, t_cutter_hand_literals_length2, t_cutter_hand_token2, t_cutter_joiner_above2, t_cutter_joiner_order2, t_cutter_joiner_weight2, t_cutter_row_size_2, t_cutter_row_literals_2, t_cutter_row_distances_2, t_cutter_row_toldOfCode_2, t_cutter_row_code_count2, t_cutter_row_code_length2, t_cutter_row_row2, t_writer_bitCount_4, t_writer_came5, t_writer_distanceCode1, t_writer_lengthCode1, t_writer_literalCode1, t_writer_next1)
else
bnd19 (m_Cutter_planOf F (bln j1) (t_cutter_best_from1 j1) (t_cutter_best_size1 j1) (t_cutter_best_to1 j1) (t_cutter_best_token1 j1) t_cutter_hand_distances_count2 t_cutter_hand_distances_length2 t_cutter_hand_literals_count2 t_cutter_hand_literals_length2 t_cutter_hand_token2 t_cutter_joiner_above2 t_cutter_joiner_order2 t_cutter_joiner_weight2 t_cutter_row_code_count2 t_cutter_row_code_length2 t_cutter_row_row2) fun t_cutter_hand_size_4 t_cutter_hand_matches_4 t_cutter_hand_kind_4 t_cutter_hand_bits_4 t_cutter_hand_distances_count5 t_cutter_hand_distances_length5 t_cutter_hand_literals_count5 t_cutter_hand_literals_length5 t_cutter_hand_token5 t_cutter_joiner_above5 t_cutter_joiner_order5 t_cutter_joiner_weight5 t_cutter_row_size_4 t_cutter_row_literals_4 t_cutter_row_distances_4 t_cutter_row_toldOfCode_4 t_cutter_row_code_count5 t_cutter_row_code_length5 t_cutter_row_row5 =>
bnd6 (m_Writer_putCoded F t_cutter_hand_distances_length5 t_cutter_hand_kind_4 t_cutter_hand_literals_length5 t_cutter_hand_size_4 t_cutter_hand_token5 t_cutter_row_code_length5 t_cutter_row_distances_4 t_cutter_row_literals_4 t_cutter_row_row5 t_cutter_row_size_4 t_cutter_row_toldOfCode_4 t_writer_bitCount_2 t_writer_came2 t_writer_distanceCode1 t_writer_lengthCode1 t_writer_literalCode1 t_writer_next1 z1) fun t_writer_bitCount_5 t_writer_came6 t_writer_distanceCode4 t_writer_lengthCode4 t_writer_literalCode4 t_writer_next4 =>
some (t_cutter_hand_size_4, t_cutter_hand_matches_4, t_cutter_hand_kind_4, t_cutter_hand_bits_4, t_cutter_hand_distances_count5, t_cutter_hand_distances_length5, t_cutter_hand_literals_count5, t_cutter_hand_literals_length5, t_cutter_hand_token5, t_cutter_joiner_above5, t_cutter_joiner_order5, t_cutter_joiner_weight5, t_cutter_row_size_4, t_cutter_row_literals_4, t_cutter_row_distances_4, t_cutter_row_toldOfCode_4, t_cutter_row_code_count5, t_cutter_row_code_length5, t_cutter_row_row5, t_writer_bitCount_5, t_writer_came6, t_writer_distanceCode4, t_writer_lengthCode4, t_writer_literalCode4, t_writer_next4)) fun z2 z3 z4 z5 t_cutter_hand_distances_count4 t_cutter_hand_distances_length4 t_cutter_hand_literals_count4 t_cutter_hand_literals_length4 t_cutter_hand_token4 t_cutter_joiner_above4 t_cutter_joiner_order4 t_cutter_joiner_weight4 z6 z7 z8 z9 t_cutter_row_code_count4 t_cutter_row_code_length4 t_cutter_row_row4 z10 t_writer_came4 t_writer_distanceCode3 t_writer_lengthCode3 t_writer_literalCode3 t_writer_next3 =>
nm (v2_1 + Int32.ofInt (1)) fun y1 => rec y1 z2 z3 z4 z5 t_cutter_hand_distances_count4 t_cutter_hand_distances_length4 t_cutter_hand_literals_count4 t_cutter_hand_literals_length4 t_cutter_hand_token4 t_cutter_joiner_above4 t_cutter_joiner_order4 t_cutter_joiner_weight4 z6 z7 z8 z9 t_cutter_row_code_count4 t_cutter_row_code_length4 t_cutter_row_row4 z10 t_writer_came4 t_writer_distanceCode3 t_writer_lengthCode3 t_writer_literalCode3 t_writer_next3)
def L_DE_deflate_28 (F : Nat) (t_cutter_best_from1 t_cutter_best_kind1 t_cutter_best_size1 t_cutter_best_to1 : Nat → Int32) (t_cutter_best_token1 : Nat → Nat → Int32) (t_cutter_taken1 : Nat → Int32) (t_cutter_takenCount_1 : Int32) (t_fed : Nat → Int32) : Nat → Int32 → Int32 → Int32 → Int32 → Int32 → (Nat → Int32) → (Nat → Int32) → (Nat → Int32) → (Nat → Int32) → (Nat → Int32) → (Nat → Int32) → (Nat → Int32) → (Nat → Int32) → Int32 → Int32 → Int32 → Int32 → (Nat → Int32) → (Nat → Int32) → (Nat → Int32) → Int32 → (Nat → Int32) → (Nat → Int32) → (Nat → Int32) → (Nat → Int32) → (Nat → Int32) → Option (Int32 × Int32 × Int32 × Int32 × Int32 × (Nat → Int32) × (Nat → Int32) × (Nat → Int32) × (Nat → Int32) × (Nat → Int32) × (Nat → Int32) × (Nat → Int32) × (Nat → Int32) × Int32 × Int32 × Int32 × Int32 × (Nat → Int32) × (Nat → Int32) × (Nat → Int32) × Int32 × (Nat → Int32) × (Nat → Int32) × (Nat → Int32) × (Nat → Int32) × (Nat → Int32))
  | 0 => fun _ _ _ _ _ _ _ _ _ _ _ _ _ _ _ _ _ _ _ _ _ _ _ _ _ _ => none
  | f + 1 => fun v2_1 t_cutter_hand_size_2 t_cutter_hand_matches_2 t_cutter_hand_kind_2 t_cutter_hand_bits_2 t_cutter_hand_distances_count2 t_cutter_hand_distances_length2 t_cutter_hand_literals_count2 t_cutter_hand_literals_length2 t_cutter_hand_token2 t_cutter_joiner_above2 t_cutter_joiner_order2 t_cutter_joiner_weight2 t_cutter_row_size_2 t_cutter_row_literals_2 t_cutter_row_distances_2 t_cutter_row_toldOfCode_2 t_cutter_row_code_count2 t_cutter_row_code_length2 t_cutter_row_row2 t_writer_bitCount_2 t_writer_came2 t_writer_distanceCode1 t_writer_lengthCode1 t_writer_literalCode1 t_writer_next1 => B_DE_deflate_28 F t_cutter_best_from1 t_cutter_best_kind1 t_cutter_best_size1 t_cutter_best_to1 t_cutter_best_token1 t_cutter_taken1 t_cutter_takenCount_1 t_fed (L_DE_deflate_28 F t_cutter_best_from1 t_cutter_best_kind1 t_cutter_best_size1 t_cutter_best_to1 t_cutter_best_token1 t_cutter_taken1 t_cutter_takenCount_1 t_fed f) v2_1 t_cutter_hand_size_2 t_cutter_hand_matches_2 t_cutter_hand_kind_2 t_cutter_hand_bits_2 t_cutter_hand_distances_count2 t_cutter_hand_distances_length2 t_cutter_hand_literals_count2 t_cutter_hand_literals_length2 t_cutter_hand_token2 t_cutter_joiner_above2 t_cutter_joiner_order2 t_cutter_joiner_weight2 t_cutter_row_size_2 t_cutter_row_literals_2 t_cutter_row_distances_2 t_cutter_row_toldOfCode_2 t_cutter_row_code_count2 t_cutter_row_code_length2 t_cutter_row_row2 t_writer_bitCount_2 t_writer_came2 t_writer_distanceCode1 t_writer_lengthCode1 t_writer_literalCode1 t_writer_next1
def m_DE_deflate (F : Nat) (t_cutter_best_bits t_cutter_best_bitsToEnd t_cutter_best_from t_cutter_best_kind t_cutter_best_matches t_cutter_best_replaced t_cutter_best_size t_cutter_best_to : Nat → Int32) (t_cutter_best_token : Nat → Nat → Int32) (t_cutter_effort t_cutter_hand_bits : Int32) (t_cutter_hand_distances_count t_cutter_hand_distances_length : Nat → Int32) (t_cutter_hand_kind : Int32) (t_cutter_hand_literals_count t_cutter_hand_literals_length : Nat → Int32) (t_cutter_hand_matches t_cutter_hand_size : Int32) (t_cutter_hand_token t_cutter_joiner_above t_cutter_joiner_order t_cutter_joiner_weight t_cutter_lengthTaken t_cutter_matches_below t_cutter_matches_bucket t_cutter_matches_found t_cutter_prices_least t_cutter_prices_ofDistance t_cutter_prices_ofLength t_cutter_prices_ofLiteral t_cutter_row_code_count t_cutter_row_code_length : Nat → Int32) (t_cutter_row_distances t_cutter_row_literals : Int32) (t_cutter_row_row : Nat → Int32) (t_cutter_row_size t_cutter_row_toldOfCode : Int32) (t_cutter_taken : Nat → Int32) (t_cutter_trial_bits : Int32) (t_cutter_trial_distances_count t_cutter_trial_distances_length : Nat → Int32) (t_cutter_trial_kind : Int32) (t_cutter_trial_literals_count t_cutter_trial_literals_length : Nat → Int32) (t_cutter_trial_matches t_cutter_trial_size : Int32) (t_cutter_trial_token t_fed : Nat → Int32) (t_fedCount : Int32) (t_writer_came t_writer_distanceCode t_writer_lengthCode t_writer_literalCode t_writer_next : Nat → Int32) : Option (Int32 × Int32 × (Nat → Nat → Int32) × (Nat → Int32) × (Nat → Int32) × (Nat → Int32) × (Nat → Int32) × (Nat → Int32) × (Nat → Int32) × (Nat → Int32) × (Nat → Int32) × Int32 × Int32 × Int32 × Int32 × (Nat → Int32) × (Nat → Int32) × (Nat → Int32) × (Nat → Int32) × (Nat → Int32) × (Nat → Int32) × (Nat → Int32) × (Nat → Int32) × (Nat → Int32) × Int32 × (Nat → Int32) × (Nat → Int32) × (Nat → Int32) × (Nat → Int32) × (Nat → Int32) × (Nat → Int32) × (Nat → Int32) × Int32 × Int32 × Int32 × Int32 × (Nat → Int32) × (Nat → Int32) × (Nat → Int32) × (Nat → Int32) × Int32 × Int32 × Int32 × Int32 × (Nat → Int32) × (Nat → Int32) × (Nat → Int32) × (Nat → Int32) × (Nat → Int32) × Int32 × (Nat → Int32) × (Nat → Int32) × (Nat → Int32) × (Nat → Int32) × (Nat → Int32)) :=
bnd48 (m_Cutter_cut F t_cutter_best_bits t_cutter_best_bitsToEnd t_cutter_best_from t_cutter_best_kind t_cutter_best_matches t_cutter_best_replaced t_cutter_best_size t_cutter_best_to t_cutter_best_token t_fed t_cutter_effort t_cutter_hand_bits t_cutter_hand_distances_count t_cutter_hand_distances_length t_cutter_hand_kind t_cutter_hand_literals_count t_cutter_hand_literals_length t_cutter_hand_matches t_cutter_hand_size t_cutter_hand_token t_cutter_joiner_above t_cutter_joiner_order t_cutter_joiner_weight t_cutter_lengthTaken t_cutter_matches_below t_cutter_matches_bucket t_cutter_matches_found t_cutter_prices_least t_cutter_prices_ofDistance t_cutter_prices_ofLength t_cutter_prices_ofLiteral t_cutter_row_code_count t_cutter_row_code_length t_cutter_row_distances t_cutter_row_literals t_cutter_row_row t_cutter_row_size t_cutter_row_toldOfCode t_cutter_taken t_cutter_trial_bits t_cutter_trial_distances_count t_cutter_trial_distances_length t_cutter_trial_kind t_cutter_trial_literals_count t_cutter_trial_literals_length t_cutter_trial_matches t_cutter_trial_size t_cutter_trial_token t_fedCount) fun t_cutter_takenCount_1 t_cutter_best_token1 t_cutter_best_from1 t_cutter_best_to1 t_cutter_best_kind1 t_cutter_best_bits1 t_cutter_best_size1 t_cutter_best_matches1 t_cutter_best_replaced1 t_cutter_best_bitsToEnd1 t_cutter_hand_size_1 t_cutter_hand_matches_1 t_cutter_hand_kind_1 t_cutter_hand_bits_1 t_cutter_hand_distances_count1 t_cutter_hand_distances_length1 t_cutter_hand_literals_count1 t_cutter_hand_literals_length1 t_cutter_hand_token1 t_cutter_joiner_above1 t_cutter_joiner_order1 t_cutter_joiner_weight1 t_cutter_lengthTaken1 t_cutter_matches_steps_1 t_cutter_matches_below1 t_cutter_matches_bucket1 t_cutter_matches_found1 t_cutter_prices_least1 t_cutter_prices_ofDistance1 t_cutter_prices_ofLength1 t_cutter_prices_ofLiteral1 t_cutter_row_size_1 t_cutter_row_literals_1 t_cutter_row_distances_1 t_cutter_row_toldOfCode_1 t_cutter_row_code_count1 t_cutter_row_code_length1 t_cutter_row_row1 t_cutter_taken1 t_cutter_trial_size_1 t_cutter_trial_matches_1 t_cutter_trial_kind_1 t_cutter_trial_bits_1 t_cutter_trial_distances_count1 t_cutter_trial_distances_length1 t_cutter_trial_literals_count1 t_cutter_trial_literals_length1 t_cutter_trial_token1 =>
bnd2 (m_Writer_restart F t_writer_came) fun t_writer_bitCount_1 t_writer_came1 =>
bnd26 (L_DE_deflate_28 F t_cutter_best_from1 t_cutter_best_kind1 t_cutter_best_size1 t_cutter_best_to1 t_cutter_best_token1 t_cutter_taken1 t_cutter_takenCount_1 t_fed F (0 : Int32) t_cutter_hand_size_1 t_cutter_hand_matches_1 t_cutter_hand_kind_1 t_cutter_hand_bits_1 t_cutter_hand_distances_count1 t_cutter_hand_distances_length1 t_cutter_hand_literals_count1 t_cutter_hand_literals_length1 t_cutter_hand_token1 t_cutter_joiner_above1 t_cutter_joiner_order1 t_cutter_joiner_weight1 t_cutter_row_size_1 t_cutter_row_literals_1 t_cutter_row_distances_1 t_cutter_row_toldOfCode_1 t_cutter_row_code_count1 t_cutter_row_code_length1 t_cutter_row_row1 t_writer_bitCount_1 t_writer_came1 t_writer_distanceCode t_writer_lengthCode t_writer_literalCode t_writer_next) fun v2_3 t_cutter_hand_size_5 t_cutter_hand_matches_5 t_cutter_hand_kind_5 t_cutter_hand_bits_5 t_cutter_hand_distances_count6 t_cutter_hand_distances_length6 t_cutter_hand_literals_count6 t_cutter_hand_literals_length6 t_cutter_hand_token6 t_cutter_joiner_above6 t_cutter_joiner_order6 t_cutter_joiner_weight6 t_cutter_row_size_5 t_cutter_row_literals_5 t_cutter_row_distances_5 t_cutter_row_toldOfCode_5 t_cutter_row_code_count6 t_cutter_row_code_length6 t_cutter_row_row6 t_writer_bitCount_6 t_writer_came7 t_writer_distanceCode5 t_writer_lengthCode5 t_writer_literalCode5 t_writer_next5 =>
bnd1 (m_Writer_byteCount F t_writer_bitCount_6) fun r1 =>
some (r1, t_cutter_takenCount_1, t_cutter_best_token1, t_cutter_best_from1, t_cutter_best_to1, t_cutter_best_kind1, t_cutter_best_bits1, t_cutter_best_size1, t_cutter_best_matches1, t_cutter_best_replaced1, t_cutter_best_bitsToEnd1, t_cutter_hand_size_5, t_cutter_hand_matches_5, t_cutter_hand_kind_5, t_cutter_hand_bits_5, t_cutter_hand_distances_count6, t_cutter_hand_distances_length6, t_cutter_hand_literals_count6, t_cutter_hand_literals_length6, t_cutter_hand_token6, t_cutter_joiner_above6, t_cutter_joiner_order6, t_cutter_joiner_weight6, t_cutter_lengthTaken1, t_cutter_matches_steps_1, t_cutter_matches_below1, t_cutter_matches_bucket1, t_cutter_matches_found1, t_cutter_prices_least1, t_cutter_prices_ofDistance1, t_cutter_prices_ofLength1, t_cutter_prices_ofLiteral1, t_cutter_row_size_5, t_cutter_row_literals_5, t_cutter_row_distances_5, t_cutter_row_toldOfCode_5, t_cutter_row_code_count6, t_cutter_row_code_length6, t_cutter_row_row6, t_cutter_taken1, t_cutter_trial_size_1, t_cutter_trial_matches_1, t_cutter_trial_kind_1, t_cutter_trial_bits_1, t_cutter_trial_distances_count1, t_cutter_trial_distances_length1, t_cutter_trial_literals_count1, t_cutter_trial_literals_length1, t_cutter_trial_token1, t_writer_bitCount_6, t_writer_came7, t_writer_distanceCode5, t_writer_lengthCode5, t_writer_literalCode5, t_writer_next5)
def m_DE_inflate (F : Nat) (n_t_reader : Nat) (t_coded : Nat → Int32) (t_codedCount t_reader_blockBit t_reader_distanceLengths t_reader_fixedDistances_longest : Int32) (t_reader_fixedDistances_perLength t_reader_fixedDistances_symbol : Nat → Int32) (t_reader_fixedLiterals_longest : Int32) (t_reader_fixedLiterals_perLength t_reader_fixedLiterals_symbol t_reader_inflated t_reader_length : Nat → Int32) (t_reader_literalLengths t_reader_ownDistances_codes t_reader_ownDistances_free t_reader_ownDistances_longest : Int32) (t_reader_ownDistances_next t_reader_ownDistances_perLength t_reader_ownDistances_symbol : Nat → Int32) (t_reader_ownLengths_codes t_reader_ownLengths_free t_reader_ownLengths_longest : Int32) (t_reader_ownLengths_next t_reader_ownLengths_perLength t_reader_ownLengths_symbol : Nat → Int32) (t_reader_ownLiterals_codes t_reader_ownLiterals_free t_reader_ownLiterals_longest : Int32) (t_reader_ownLiterals_next t_reader_ownLiterals_perLength t_reader_ownLiterals_symbol : Nat → Int32) : Option (Int32 × Int32 × Int32 × Int32 × Int32 × Int32 × Int32 × Int32 × Int32 × (Nat → Int32) × (Nat → Int32) × Int32 × Int32 × Int32 × (Nat → Int32) × (Nat → Int32) × (Nat → Int32) × Int32 × Int32 × Int32 × (Nat → Int32) × (Nat → Int32) × (Nat → Int32) × Int32 × Int32 × Int32 × (Nat → Int32) × (Nat → Int32) × (Nat → Int32)) :=
bnd29 (m_Reader_readAll F n_t_reader t_reader_blockBit t_coded t_reader_distanceLengths t_reader_fixedDistances_longest t_reader_fixedDistances_perLength t_reader_fixedDistances_symbol t_reader_fixedLiterals_longest t_reader_fixedLiterals_perLength t_reader_fixedLiterals_symbol t_reader_inflated t_reader_length t_reader_literalLengths t_reader_ownDistances_codes t_reader_ownDistances_free t_reader_ownDistances_longest t_reader_ownDistances_next t_reader_ownDistances_perLength t_reader_ownDistances_symbol t_reader_ownLengths_codes t_reader_ownLengths_free t_reader_ownLengths_longest t_reader_ownLengths_next t_reader_ownLengths_perLength t_reader_ownLengths_symbol t_reader_ownLiterals_codes t_reader_ownLiterals_free t_reader_ownLiterals_longest t_reader_ownLiterals_next t_reader_ownLiterals_perLength t_reader_ownLiterals_symbol t_codedCount) fun r1 t_reader_inflatedCount_1 t_reader_stopBit_1 t_reader_state_1 t_reader_bitCount_1 t_reader_at_1 t_reader_blockBit_1 t_reader_literalLengths_1 t_reader_distanceLengths_1 t_reader_inflated1 t_reader_length1 t_reader_ownDistances_codes_1 t_reader_ownDistances_longest_1 t_reader_ownDistances_free_1 t_reader_ownDistances_next1 t_reader_ownDistances_perLength1 t_reader_ownDistances_symbol1 t_reader_ownLengths_codes_1 t_reader_ownLengths_longest_1 t_reader_ownLengths_free_1 t_reader_ownLengths_next1 t_reader_ownLengths_perLength1 t_reader_ownLengths_symbol1 t_reader_ownLiterals_codes_1 t_reader_ownLiterals_longest_1 t_reader_ownLiterals_free_1 t_reader_ownLiterals_next1 t_reader_ownLiterals_perLength1 t_reader_ownLiterals_symbol1 =>
some (r1, t_reader_inflatedCount_1, t_reader_stopBit_1, t_reader_state_1, t_reader_bitCount_1, t_reader_at_1, t_reader_blockBit_1, t_reader_literalLengths_1, t_reader_distanceLengths_1, t_reader_inflated1, t_reader_length1, t_reader_ownDistances_codes_1, t_reader_ownDistances_longest_1, t_reader_ownDistances_free_1, t_reader_ownDistances_next1, t_reader_ownDistances_perLength1, t_reader_ownDistances_symbol1, t_reader_ownLengths_codes_1, t_reader_ownLengths_longest_1, t_reader_ownLengths_free_1, t_reader_ownLengths_next1, t_reader_ownLengths_perLength1, t_reader_ownLengths_symbol1, t_reader_ownLiterals_codes_1, t_reader_ownLiterals_longest_1, t_reader_ownLiterals_free_1, t_reader_ownLiterals_next1, t_reader_ownLiterals_perLength1, t_reader_ownLiterals_symbol1)
def B_DE_crc_24 (F : Nat)  (rec : Int32 → Int32 → Option (Int32 × Int32)) (v2_3 v4_1 : Int32) : Option (Int32 × Int32) :=
(if (8 : Int32) ≤ v4_1 then
some (v2_3, v4_1)
else
bnd1 (if (v2_3 &&& (1 : Int32)) = (1 : Int32) then
some ((rx_us v2_3 (1 : Int32)) ^^^ (-306674912 : Int32))
else
some (rx_us v2_3 (1 : Int32))) fun z1 =>
nm (v4_1 + Int32.ofInt (1)) fun y2 => rec z1 y2)
def L_DE_crc_24 (F : Nat)  : Nat → Int32 → Int32 → Option (Int32 × Int32)
  | 0 => fun _ _ => none
  | f + 1 => fun v2_3 v4_1 => B_DE_crc_24 F  (L_DE_crc_24 F  f) v2_3 v4_1
def B_DE_crc_4 (F : Nat) (n_p0 : Nat) (p0 : Nat → Int32) (x1 : Int32) (rec : Int32 → Int32 → Option (Int32 × Int32)) (v2_1 v3_1 : Int32) : Option (Int32 × Int32) :=
(if x1 ≤ v3_1 then
some (v2_1, v3_1)
else
(if (nI n_p0) ≤ v3_1 then
some (v2_1, v3_1)
else
chk (inb v3_1 n_p0) <| nm (v2_1 ^^^ (p0 v3_1.toNatClampNeg)) fun y1 => bnd2 (L_DE_crc_24 F  F y1 (0 : Int32)) fun v2_5 v4_3 =>
nm (v3_1 + Int32.ofInt (1)) fun y3 => rec v2_5 y3))
def L_DE_crc_4 (F : Nat) (n_p0 : Nat) (p0 : Nat → Int32) (x1 : Int32) : Nat → Int32 → Int32 → Option (Int32 × Int32)
  | 0 => fun _ _ => none
  | f + 1 => fun v2_1 v3_1 => B_DE_crc_4 F n_p0 p0 x1 (L_DE_crc_4 F n_p0 p0 x1 f) v2_1 v3_1
def m_DE_crc (F : Nat) (n_p0 : Nat) (p0 : Nat → Int32) (x1 : Int32) : Option (Int32) :=
bnd2 (L_DE_crc_4 F n_p0 p0 x1 F (-1 : Int32) (0 : Int32)) fun v2_6 v3_3 =>
some (v2_6 ^^^ (-1 : Int32))
def B_DE_adler_7 (F : Nat) (n_p0 : Nat) (p0 : Nat → Int32) (x1 : Int32) (rec : Int32 → Int32 → Int32 → Option (Int32 × Int32 × Int32)) (v2_1 v3_1 v4_1 : Int32) : Option (Int32 × Int32 × Int32) :=
(if x1 ≤ v4_1 then
some (v2_1, v3_1, v4_1)
else
(if (nI n_p0) ≤ v4_1 then
some (v2_1, v3_1, v4_1)
else
chk (inb v4_1 n_p0) <| nm ((v2_1 + (p0 v4_1.toNatClampNeg)) - (v2_1 + (p0 v4_1.toNatClampNeg)) / (65521 : Int32) * (65521 : Int32)) fun y1 => nm ((v3_1 + y1) - (v3_1 + y1) / (65521 : Int32) * (65521 : Int32)) fun y2 => nm (v4_1 + Int32.ofInt (1)) fun y3 => rec y1 y2 y3))
def L_DE_adler_7 (F : Nat) (n_p0 : Nat) (p0 : Nat → Int32) (x1 : Int32) : Nat → Int32 → Int32 → Int32 → Option (Int32 × Int32 × Int32)
  | 0 => fun _ _ _ => none
  | f + 1 => fun v2_1 v3_1 v4_1 => B_DE_adler_7 F n_p0 p0 x1 (L_DE_adler_7 F n_p0 p0 x1 f) v2_1 v3_1 v4_1
def m_DE_adler (F : Nat) (n_p0 : Nat) (p0 : Nat → Int32) (x1 : Int32) : Option (Int32) :=
bnd3 (L_DE_adler_7 F n_p0 p0 x1 F (1 : Int32) (0 : Int32) (0 : Int32)) fun v2_3 v3_3 v4_3 =>
some ((v3_3 <<< ((16 : Int32) &&& 31)) ||| v2_3)
def m_DE_told (F : Nat) (t_codedCount : Int32) (t_cutter_best_replaced : Nat → Int32) (t_cutter_matches_steps : Int32) (t_cutter_taken : Nat → Int32) (t_cutter_takenCount t_effort t_fedCount t_reader_inflatedCount t_reader_stopBit t_room t_writer_bitCount x1 : Int32) : Option (Int32) :=
(if x1 = (0 : Int32) then
some t_effort
else
(if x1 = (1 : Int32) then
some t_room
else
(if x1 = (2 : Int32) then
some t_fedCount
else
(if x1 = (3 : Int32) then
bnd1 (m_Writer_byteCount F t_writer_bitCount) fun r1 =>
some r1
else
(if x1 = (4 : Int32) then
some t_cutter_takenCount
else
(if x1 = (5 : Int32) then
some t_cutter_matches_steps
else
(if x1 = (6 : Int32) then
bnd1 (m_Cutter_replacedInTaken F t_cutter_best_replaced t_cutter_taken t_cutter_takenCount) fun r2 =>
some r2
else
(if x1 = (7 : Int32) then
some t_codedCount
else
(if x1 = (8 : Int32) then
some t_reader_inflatedCount
else
(if x1 = (9 : Int32) then
some t_reader_stopBit
else
some (-1 : Int32)))))))))))
def m_DE_clear (F : Nat) (t_writer_came : Nat → Int32) : Option (Int32 × Int32 × Int32 × Int32 × Int32 × Int32 × Int32 × Int32 × Int32 × Int32 × (Nat → Int32)) :=
bnd2 (m_Cutter_forget F ) fun t_cutter_takenCount_1 t_cutter_matches_steps_1 =>
bnd2 (m_Writer_restart F t_writer_came) fun t_writer_bitCount_1 t_writer_came1 =>
bnd5 (m_Reader_restart F (0 : Int32)) fun t_reader_inflatedCount_1 t_reader_stopBit_1 t_reader_state_1 t_reader_bitCount_1 t_reader_at_1 =>
some ((0 : Int32), (0 : Int32), t_cutter_takenCount_1, t_cutter_matches_steps_1, t_reader_inflatedCount_1, t_reader_stopBit_1, t_reader_state_1, t_reader_bitCount_1, t_reader_at_1, t_writer_bitCount_1, t_writer_came1)
def m_MD_thrown (F : Nat) (t_fault : Int32) : Option (Int32) :=
some t_fault
def m_MD_within (F : Nat) (x0 x1 x2 : Int32) : Option (Int32) :=
(if x0 < x1 then
some (0 : Int32)
else
(if x2 < x0 then
some (0 : Int32)
else
some (1 : Int32)))
def B_MD_feed_58 (F : Nat) (x1 x2 : Int32) (rec : Int32 → Int32 → (Nat → Int32) → Option (Int32 × Int32 × (Nat → Int32))) (v3_1 t_size_1 : Int32) (t_bytes1 : Nat → Int32) : Option (Int32 × Int32 × (Nat → Int32)) :=
(if x2 ≤ v3_1 then
some (v3_1, t_size_1, t_bytes1)
else
chk (inb t_size_1 512) <| nm (upd t_bytes1 t_size_1.toNatClampNeg x1) fun t_bytes3 => nm (t_size_1 + (1 : Int32)) fun y1 => nm (v3_1 + Int32.ofInt (1)) fun y2 => rec y2 y1 t_bytes3)
def L_MD_feed_58 (F : Nat) (x1 x2 : Int32) : Nat → Int32 → Int32 → (Nat → Int32) → Option (Int32 × Int32 × (Nat → Int32))
  | 0 => fun _ _ _ => none
  | f + 1 => fun v3_1 t_size_1 t_bytes1 => B_MD_feed_58 F x1 x2 (L_MD_feed_58 F x1 x2 f) v3_1 t_size_1 t_bytes1
def m_MD_feed (F : Nat) (t_bytes : Nat → Int32) (t_size x1 x2 : Int32) : Option (Int32 × Int32 × Int32 × (Nat → Int32)) :=
bnd1 (m_MD_within F x1 (0 : Int32) (255 : Int32)) fun r1 =>
bnd1 (if r1 = (0 : Int32) then
some (1 : Int32)
else
bnd1 (m_MD_within F x2 (1 : Int32) (512 : Int32)) fun r2 =>
(if r2 = (0 : Int32) then
some (1 : Int32)
else
(if (t_size + x2) ≤ (512 : Int32) then
some (0 : Int32)
else
some (2 : Int32)))) fun z1 =>
(if z1 ≤ (0 : Int32) then
bnd3 (L_MD_feed_58 F x1 x2 F (0 : Int32) t_size t_bytes) fun v3_3 t_size_3 t_bytes4 =>
some (t_size_3, z1, t_size_3, t_bytes4)
else
some ((0 : Int32), z1, t_size, t_bytes))
def B_MD_high_2 (F : Nat) (x0 : Int32) (rec : Int32 → Option (Int32)) (v1_1 : Int32) : Option (Int32) :=
(if (x0 >>> ((v1_1 + (1 : Int32)) &&& 31)) ≤ (0 : Int32) then
some v1_1
else
nm (v1_1 + Int32.ofInt (1)) fun y1 => rec y1)
def L_MD_high_2 (F : Nat) (x0 : Int32) : Nat → Int32 → Option (Int32)
  | 0 => fun _ => none
  | f + 1 => fun v1_1 => B_MD_high_2 F x0 (L_MD_high_2 F x0 f) v1_1
def m_MD_high (F : Nat) (x0 : Int32) : Option (Int32) :=
bnd1 (L_MD_high_2 F x0 F (0 : Int32)) fun v1_3 =>
some v1_3
def m_MD_extraOfSize (F : Nat) (x0 : Int32) : Option (Int32) :=
(if x0 = (258 : Int32) then
some (0 : Int32)
else
(if (11 : Int32) ≤ x0 then
bnd1 (m_MD_high F (x0 - (3 : Int32))) fun r1 =>
some (r1 - (2 : Int32))
else
some (0 : Int32)))
def m_MD_symbolOfSize (F : Nat) (x0 : Int32) : Option (Int32) :=
bnd1 (m_MD_extraOfSize F x0) fun r1 =>
(if x0 = (258 : Int32) then
some (285 : Int32)
else
(if (11 : Int32) ≤ x0 then
some (((257 : Int32) + ((4 : Int32) * r1)) + ((x0 - (3 : Int32)) >>> (r1 &&& 31)))
else
some ((254 : Int32) + x0)))
def m_MD_extraOfFar (F : Nat) (x0 : Int32) : Option (Int32) :=
(if (5 : Int32) ≤ x0 then
bnd1 (m_MD_high F (x0 - (1 : Int32))) fun r1 =>
some (r1 - (1 : Int32))
else
some (0 : Int32))
def m_MD_symbolOfFar (F : Nat) (x0 : Int32) : Option (Int32) :=
bnd1 (m_MD_extraOfFar F x0) fun r1 =>
(if (5 : Int32) ≤ x0 then
some (((2 : Int32) * r1) + ((x0 - (1 : Int32)) >>> (r1 &&& 31)))
else
some (x0 - (1 : Int32)))
def B_MD_least_5 (F : Nat) (t_upper t_weight : Nat → Int32) (x1 x2 : Int32) (rec : Int32 → Int32 → Option (Int32 × Int32)) (v3_1 v4_1 : Int32) : Option (Int32 × Int32) :=
(if x1 ≤ v4_1 then
some (v3_1, v4_1)
else
chk (inb v4_1 600) <| bnd1 (if (t_upper v4_1.toNatClampNeg) = (0 : Int32) then
(if v4_1 = x2 then
some v3_1
else
(if v3_1 < (0 : Int32) then
some v4_1
else
chk (inb v4_1 600) <| chk (inb v3_1 600) <| (if (t_weight v3_1.toNatClampNeg) ≤ (t_weight v4_1.toNatClampNeg) then
some v3_1
else
some v4_1)))
else
some v3_1) fun z1 =>
nm (v4_1 + Int32.ofInt (1)) fun y1 => rec z1 y1)
def L_MD_least_5 (F : Nat) (t_upper t_weight : Nat → Int32) (x1 x2 : Int32) : Nat → Int32 → Int32 → Option (Int32 × Int32)
  | 0 => fun _ _ => none
  | f + 1 => fun v3_1 v4_1 => B_MD_least_5 F t_upper t_weight x1 x2 (L_MD_least_5 F t_upper t_weight x1 x2 f) v3_1 v4_1
def m_MD_least (F : Nat) (t_upper t_weight : Nat → Int32) (x1 x2 : Int32) : Option (Int32) :=
bnd2 (L_MD_least_5 F t_upper t_weight x1 x2 F (-1 : Int32) (0 : Int32)) fun v3_3 v4_3 =>
some v3_3
def B_MD_join_9 (F : Nat) (n_p1 n_p3 : Nat) (p1 : Nat → Int32) (x2 : Int32) (rec : Int32 → Int32 → (Nat → Int32) → (Nat → Int32) → (Nat → Int32) → Option (Int32 × Int32 × (Nat → Int32) × (Nat → Int32) × (Nat → Int32))) (v5_1 v6_1 : Int32) (p2 t_upper1 t_weight1 : Nat → Int32) : Option (Int32 × Int32 × (Nat → Int32) × (Nat → Int32) × (Nat → Int32)) :=
(if x2 ≤ v6_1 then
some (v5_1, v6_1, p2, t_upper1, t_weight1)
else
chk (inb v6_1 n_p1) <| chk (inb v6_1 600) <| nm (upd t_weight1 v6_1.toNatClampNeg (p1 v6_1.toNatClampNeg)) fun t_weight3 => chk (inb v6_1 n_p1) <| bnd1 (if (p1 v6_1.toNatClampNeg) ≤ (0 : Int32) then
some (-1 : Int32)
else
some (0 : Int32)) fun z1 =>
chk (inb v6_1 600) <| nm (upd t_upper1 v6_1.toNatClampNeg z1) fun t_upper3 => chk (inb v6_1 n_p1) <| bnd1 (if (p1 v6_1.toNatClampNeg) ≤ (0 : Int32) then
some v5_1
else
some (v5_1 + (1 : Int32))) fun z2 =>
chk (inb v6_1 n_p3) <| nm (upd p2 v6_1.toNatClampNeg (0 : Int32)) fun p5 => nm (v6_1 + Int32.ofInt (1)) fun y1 => rec z2 y1 p5 t_upper3 t_weight3)
def L_MD_join_9 (F : Nat) (n_p1 n_p3 : Nat) (p1 : Nat → Int32) (x2 : Int32) : Nat → Int32 → Int32 → (Nat → Int32) → (Nat → Int32) → (Nat → Int32) → Option (Int32 × Int32 × (Nat → Int32) × (Nat → Int32) × (Nat → Int32))
  | 0 => fun _ _ _ _ _ => none
  | f + 1 => fun v5_1 v6_1 p2 t_upper1 t_weight1 => B_MD_join_9 F n_p1 n_p3 p1 x2 (L_MD_join_9 F n_p1 n_p3 p1 x2 f) v5_1 v6_1 p2 t_upper1 t_weight1
def B_MD_join_87 (F : Nat)  (rec : Int32 → Int32 → (Nat → Int32) → (Nat → Int32) → Option (Int32 × Int32 × (Nat → Int32) × (Nat → Int32))) (v4_1 v5_4 : Int32) (t_upper5 t_weight5 : Nat → Int32) : Option (Int32 × Int32 × (Nat → Int32) × (Nat → Int32)) :=
(if v5_4 ≤ (1 : Int32) then
some (v4_1, v5_4, t_upper5, t_weight5)
else
bnd1 (m_MD_least F t_upper5 t_weight5 v4_1 (-1 : Int32)) fun r1 =>
bnd1 (m_MD_least F t_upper5 t_weight5 v4_1 r1) fun r2 =>
chk (inb r1 600) <| chk (inb r2 600) <| chk (inb v4_1 600) <| nm (upd t_weight5 v4_1.toNatClampNeg ((t_weight5 r1.toNatClampNeg) + (t_weight5 r2.toNatClampNeg))) fun t_weight7 => chk (inb v4_1 600) <| nm (upd t_upper5 v4_1.toNatClampNeg (0 : Int32)) fun t_upper7 => chk (inb r1 600) <| nm (upd t_upper7 r1.toNatClampNeg v4_1) fun t_upper8 => chk (inb r2 600) <| nm (upd t_upper8 r2.toNatClampNeg v4_1) fun t_upper9 => nm (v4_1 + Int32.ofInt (1)) fun y2 => nm (v5_4 + Int32.ofInt (-1)) fun y3 => rec y2 y3 t_upper9 t_weight7)
def L_MD_join_87 (F : Nat)  : Nat → Int32 → Int32 → (Nat → Int32) → (Nat → Int32) → Option (Int32 × Int32 × (Nat → Int32) × (Nat → Int32))
  | 0 => fun _ _ _ _ => none
  | f + 1 => fun v4_1 v5_4 t_upper5 t_weight5 => B_MD_join_87 F  (L_MD_join_87 F  f) v4_1 v5_4 t_upper5 t_weight5
def B_MD_join_185 (F : Nat) (n_p1 : Nat) (p1 t_upper10 : Nat → Int32) (v7_1 : Int32) (rec : Int32 → Int32 → Option (Int32 × Int32)) (v8_1 v9_1 : Int32) : Option (Int32 × Int32) :=
chk (inb v7_1 n_p1) <| (if (p1 v7_1.toNatClampNeg) ≤ (0 : Int32) then
some (v8_1, v9_1)
else
chk (inb v9_1 600) <| (if (t_upper10 v9_1.toNatClampNeg) ≤ (0 : Int32) then
some (v8_1, v9_1)
else
nm (v8_1 + Int32.ofInt (1)) fun y4 => chk (inb v9_1 600) <| nm (t_upper10 v9_1.toNatClampNeg) fun y5 => rec y4 y5))
def L_MD_join_185 (F : Nat) (n_p1 : Nat) (p1 t_upper10 : Nat → Int32) (v7_1 : Int32) : Nat → Int32 → Int32 → Option (Int32 × Int32)
  | 0 => fun _ _ => none
  | f + 1 => fun v8_1 v9_1 => B_MD_join_185 F n_p1 p1 t_upper10 v7_1 (L_MD_join_185 F n_p1 p1 t_upper10 v7_1 f) v8_1 v9_1
def B_MD_join_172 (F : Nat) (n_p1 n_p3 : Nat) (p1 t_upper10 : Nat → Int32) (x2 z3 : Int32) (rec : Int32 → (Nat → Int32) → Option (Int32 × (Nat → Int32))) (v7_1 : Int32) (p7 : Nat → Int32) : Option (Int32 × (Nat → Int32)) :=
(if x2 ≤ v7_1 then
some (v7_1, p7)
else
bnd2 (L_MD_join_185 F n_p1 p1 t_upper10 v7_1 F (0 : Int32) v7_1) fun v8_3 v9_3 =>
chk (inb v7_1 n_p1) <| bnd1 (if (p1 v7_1.toNatClampNeg) ≤ (0 : Int32) then
some v8_3
else
(if z3 = (0 : Int32) then
some v8_3
else
some (1 : Int32))) fun z4 =>
chk (inb v7_1 n_p3) <| nm (upd p7 v7_1.toNatClampNeg z4) fun p9 => nm (v7_1 + Int32.ofInt (1)) fun y6 => rec y6 p9)
def L_MD_join_172 (F : Nat) (n_p1 n_p3 : Nat) (p1 t_upper10 : Nat → Int32) (x2 z3 : Int32) : Nat → Int32 → (Nat → Int32) → Option (Int32 × (Nat → Int32))
  | 0 => fun _ _ => none
  | f + 1 => fun v7_1 p7 => B_MD_join_172 F n_p1 n_p3 p1 t_upper10 x2 z3 (L_MD_join_172 F n_p1 n_p3 p1 t_upper10 x2 z3 f) v7_1 p7
def m_MD_join (F : Nat) (n_p1 n_p3 : Nat) (p1 p3 t_upper t_weight : Nat → Int32) (x2 : Int32) : Option ((Nat → Int32) × (Nat → Int32) × (Nat → Int32)) :=
bnd5 (L_MD_join_9 F n_p1 n_p3 p1 x2 F (0 : Int32) (0 : Int32) p3 t_upper t_weight) fun v5_3 v6_3 p6 t_upper4 t_weight4 =>
bnd1 (if v5_3 = (1 : Int32) then
some (1 : Int32)
else
some (0 : Int32)) fun z3 =>
bnd4 (L_MD_join_87 F  F x2 v5_3 t_upper4 t_weight4) fun v4_3 v5_6 t_upper10 t_weight8 =>
bnd2 (L_MD_join_172 F n_p1 n_p3 p1 t_upper10 x2 z3 F (0 : Int32) p6) fun v7_3 p10 =>
some (p10, t_upper10, t_weight8)
def B_MD_number_19 (F : Nat) (n_p0 n_p2 : Nat) (p0 : Nat → Int32) (v4_1 x1 : Int32) (rec : Int32 → Int32 → (Nat → Int32) → Option (Int32 × Int32 × (Nat → Int32))) (v3_3 v5_1 : Int32) (p4 : Nat → Int32) : Option (Int32 × Int32 × (Nat → Int32)) :=
(if x1 ≤ v5_1 then
some (v3_3, v5_1, p4)
else
chk (inb v5_1 n_p0) <| bnd2 (if (p0 v5_1.toNatClampNeg) = v4_1 then
chk (inb v5_1 n_p2) <| nm (upd p4 v5_1.toNatClampNeg v3_3) fun p7 => nm (v3_3 + Int32.ofInt (1)) fun y2 => some (y2, p7)
else
some (v3_3, p4)) fun z1 p6 =>
nm (v5_1 + Int32.ofInt (1)) fun y3 => rec z1 y3 p6)
def L_MD_number_19 (F : Nat) (n_p0 n_p2 : Nat) (p0 : Nat → Int32) (v4_1 x1 : Int32) : Nat → Int32 → Int32 → (Nat → Int32) → Option (Int32 × Int32 × (Nat → Int32))
  | 0 => fun _ _ _ => none
  | f + 1 => fun v3_3 v5_1 p4 => B_MD_number_19 F n_p0 n_p2 p0 v4_1 x1 (L_MD_number_19 F n_p0 n_p2 p0 v4_1 x1 f) v3_3 v5_1 p4
def B_MD_number_5 (F : Nat) (n_p0 n_p2 : Nat) (p0 : Nat → Int32) (x1 : Int32) (rec : Int32 → Int32 → (Nat → Int32) → Option (Int32 × Int32 × (Nat → Int32))) (v3_1 v4_1 : Int32) (p1 : Nat → Int32) : Option (Int32 × Int32 × (Nat → Int32)) :=
(if (16 : Int32) ≤ v4_1 then
some (v3_1, v4_1, p1)
else
nm ((2 : Int32) * v3_1) fun y1 => bnd3 (L_MD_number_19 F n_p0 n_p2 p0 v4_1 x1 F y1 (0 : Int32) p1) fun v3_5 v5_3 p8 =>
nm (v4_1 + Int32.ofInt (1)) fun y4 => rec v3_5 y4 p8)
def L_MD_number_5 (F : Nat) (n_p0 n_p2 : Nat) (p0 : Nat → Int32) (x1 : Int32) : Nat → Int32 → Int32 → (Nat → Int32) → Option (Int32 × Int32 × (Nat → Int32))
  | 0 => fun _ _ _ => none
  | f + 1 => fun v3_1 v4_1 p1 => B_MD_number_5 F n_p0 n_p2 p0 x1 (L_MD_number_5 F n_p0 n_p2 p0 x1 f) v3_1 v4_1 p1
def m_MD_number (F : Nat) (n_p0 n_p2 : Nat) (p0 p2 : Nat → Int32) (x1 : Int32) : Option ((Nat → Int32)) :=
bnd3 (L_MD_number_5 F n_p0 n_p2 p0 x1 F (0 : Int32) (1 : Int32) p2) fun v3_6 v4_3 p9 =>
some p9
def B_MD_fixedCodes_2 (F : Nat)  (rec : Int32 → (Nat → Int32) → Option (Int32 × (Nat → Int32))) (v1_1 : Int32) (t_litLength1 : Nat → Int32) : Option (Int32 × (Nat → Int32)) :=
(if (288 : Int32) ≤ v1_1 then
some (v1_1, t_litLength1)
else
bnd1 (if (144 : Int32) ≤ v1_1 then
(if (256 : Int32) ≤ v1_1 then
(if (280 : Int32) ≤ v1_1 then
some (8 : Int32)
else
some (7 : Int32))
else
some (9 : Int32))
else
some (8 : Int32)) fun z1 =>
chk (inb v1_1 288) <| nm (upd t_litLength1 v1_1.toNatClampNeg z1) fun t_litLength3 => nm (v1_1 + Int32.ofInt (1)) fun y1 => rec y1 t_litLength3)
def L_MD_fixedCodes_2 (F : Nat)  : Nat → Int32 → (Nat → Int32) → Option (Int32 × (Nat → Int32))
  | 0 => fun _ _ => none
  | f + 1 => fun v1_1 t_litLength1 => B_MD_fixedCodes_2 F  (L_MD_fixedCodes_2 F  f) v1_1 t_litLength1
def B_MD_fixedCodes_61 (F : Nat)  (rec : Int32 → (Nat → Int32) → Option (Int32 × (Nat → Int32))) (v1_4 : Int32) (t_farLength1 : Nat → Int32) : Option (Int32 × (Nat → Int32)) :=
(if (32 : Int32) ≤ v1_4 then
some (v1_4, t_farLength1)
else
chk (inb v1_4 32) <| nm (upd t_farLength1 v1_4.toNatClampNeg (5 : Int32)) fun t_farLength3 => nm (v1_4 + Int32.ofInt (1)) fun y2 => rec y2 t_farLength3)
def L_MD_fixedCodes_61 (F : Nat)  : Nat → Int32 → (Nat → Int32) → Option (Int32 × (Nat → Int32))
  | 0 => fun _ _ => none
  | f + 1 => fun v1_4 t_farLength1 => B_MD_fixedCodes_61 F  (L_MD_fixedCodes_61 F  f) v1_4 t_farLength1
def m_MD_fixedCodes (F : Nat) (t_farLength t_litLength : Nat → Int32) : Option ((Nat → Int32) × (Nat → Int32)) :=
bnd2 (L_MD_fixedCodes_2 F  F (0 : Int32) t_litLength) fun v1_3 t_litLength4 =>
bnd2 (L_MD_fixedCodes_61 F  F (0 : Int32) t_farLength) fun v1_6 t_farLength4 =>
some (t_farLength4, t_litLength4)
def B_MD_countTokens_2 (F : Nat)  (rec : Int32 → (Nat → Int32) → Option (Int32 × (Nat → Int32))) (v2_1 : Int32) (t_litCount1 : Nat → Int32) : Option (Int32 × (Nat → Int32)) :=
(if (288 : Int32) ≤ v2_1 then
some (v2_1, t_litCount1)
else
bnd1 (if v2_1 = (256 : Int32) then
some (1 : Int32)
else
some (0 : Int32)) fun z1 =>
chk (inb v2_1 288) <| nm (upd t_litCount1 v2_1.toNatClampNeg z1) fun t_litCount3 => nm (v2_1 + Int32.ofInt (1)) fun y1 => rec y1 t_litCount3)
def L_MD_countTokens_2 (F : Nat)  : Nat → Int32 → (Nat → Int32) → Option (Int32 × (Nat → Int32))
  | 0 => fun _ _ => none
  | f + 1 => fun v2_1 t_litCount1 => B_MD_countTokens_2 F  (L_MD_countTokens_2 F  f) v2_1 t_litCount1
def B_MD_countTokens_35 (F : Nat)  (rec : Int32 → (Nat → Int32) → Option (Int32 × (Nat → Int32))) (v2_4 : Int32) (t_farCount1 : Nat → Int32) : Option (Int32 × (Nat → Int32)) :=
(if (32 : Int32) ≤ v2_4 then
some (v2_4, t_farCount1)
else
chk (inb v2_4 32) <| nm (upd t_farCount1 v2_4.toNatClampNeg (0 : Int32)) fun t_farCount3 => nm (v2_4 + Int32.ofInt (1)) fun y2 => rec y2 t_farCount3)
def L_MD_countTokens_35 (F : Nat)  : Nat → Int32 → (Nat → Int32) → Option (Int32 × (Nat → Int32))
  | 0 => fun _ _ => none
  | f + 1 => fun v2_4 t_farCount1 => B_MD_countTokens_35 F  (L_MD_countTokens_35 F  f) v2_4 t_farCount1
def B_MD_countTokens_58 (F : Nat) (t_bytes t_tokenFar t_tokenSize : Nat → Int32) (t_tokens : Int32) (rec : Int32 → Int32 → (Nat → Int32) → (Nat → Int32) → Option (Int32 × Int32 × (Nat → Int32) × (Nat → Int32))) (v2_7 v3_1 : Int32) (t_farCount5 t_litCount5 : Nat → Int32) : Option (Int32 × Int32 × (Nat → Int32) × (Nat → Int32)) :=
(if t_tokens ≤ v3_1 then
some (v2_7, v3_1, t_farCount5, t_litCount5)
else
chk (inb v3_1 513) <| bnd2 (if (t_tokenSize v3_1.toNatClampNeg) = (1 : Int32) then
chk (inb v2_7 512) <| chk (inb (t_bytes v2_7.toNatClampNeg) 288) <| chk (inb (t_bytes v2_7.toNatClampNeg) 288) <| nm (upd t_litCount5 (t_bytes v2_7.toNatClampNeg).toNatClampNeg ((t_litCount5 (t_bytes v2_7.toNatClampNeg).toNatClampNeg) + (1 : Int32))) fun t_litCount8 => some (t_farCount5, t_litCount8)
else
chk (inb v3_1 513) <| bnd1 (m_MD_symbolOfSize F (t_tokenSize v3_1.toNatClampNeg)) fun r1 =>
chk (inb r1 288) <| chk (inb r1 288) <| nm (upd t_litCount5 r1.toNatClampNeg ((t_litCount5 r1.toNatClampNeg) + (1 : Int32))) fun t_litCount9 => chk (inb v3_1 513) <| bnd1 (m_MD_symbolOfFar F (t_tokenFar v3_1.toNatClampNeg)) fun r2 =>
chk (inb r2 32) <| chk (inb r2 32) <| nm (upd t_farCount5 r2.toNatClampNeg ((t_farCount5 r2.toNatClampNeg) + (1 : Int32))) fun t_farCount8 => some (t_farCount8, t_litCount9)) fun t_farCount7 t_litCount7 =>
chk (inb v3_1 513) <| nm (v2_7 + (t_tokenSize v3_1.toNatClampNeg)) fun y3 => nm (v3_1 + Int32.ofInt (1)) fun y4 => rec y3 y4 t_farCount7 t_litCount7)
def L_MD_countTokens_58 (F : Nat) (t_bytes t_tokenFar t_tokenSize : Nat → Int32) (t_tokens : Int32) : Nat → Int32 → Int32 → (Nat → Int32) → (Nat → Int32) → Option (Int32 × Int32 × (Nat → Int32) × (Nat → Int32))
  | 0 => fun _ _ _ _ => none
  | f + 1 => fun v2_7 v3_1 t_farCount5 t_litCount5 => B_MD_countTokens_58 F t_bytes t_tokenFar t_tokenSize t_tokens (L_MD_countTokens_58 F t_bytes t_tokenFar t_tokenSize t_tokens f) v2_7 v3_1 t_farCount5 t_litCount5
def m_MD_countTokens (F : Nat) (t_bytes t_farCount t_litCount t_tokenFar t_tokenSize : Nat → Int32) (t_tokens x1 : Int32) : Option ((Nat → Int32) × (Nat → Int32)) :=
bnd2 (L_MD_countTokens_2 F  F (0 : Int32) t_litCount) fun v2_3 t_litCount4 =>
bnd2 (L_MD_countTokens_35 F  F (0 : Int32) t_farCount) fun v2_6 t_farCount4 =>
bnd4 (L_MD_countTokens_58 F t_bytes t_tokenFar t_tokenSize t_tokens F x1 (0 : Int32) t_farCount4 t_litCount4) fun v2_9 v3_3 t_farCount9 t_litCount10 =>
some (t_farCount9, t_litCount10)
def B_MD_bitsOfTokens_14 (F : Nat) (t_bytes t_farLength t_litLength t_tokenFar t_tokenSize : Nat → Int32) (t_tokens : Int32) (rec : Int32 → Int32 → Int32 → Option (Int32 × Int32 × Int32)) (v2_1 v3_1 v4_1 : Int32) : Option (Int32 × Int32 × Int32) :=
(if t_tokens ≤ v4_1 then
some (v2_1, v3_1, v4_1)
else
chk (inb v4_1 513) <| bnd1 (if (t_tokenSize v4_1.toNatClampNeg) = (1 : Int32) then
chk (inb v3_1 512) <| chk (inb (t_bytes v3_1.toNatClampNeg) 288) <| nm (v2_1 + (t_litLength (t_bytes v3_1.toNatClampNeg).toNatClampNeg)) fun y2 => some y2
else
chk (inb v4_1 513) <| bnd1 (m_MD_symbolOfSize F (t_tokenSize v4_1.toNatClampNeg)) fun r1 =>
chk (inb r1 288) <| chk (inb v4_1 513) <| bnd1 (m_MD_extraOfSize F (t_tokenSize v4_1.toNatClampNeg)) fun r2 =>
nm (v2_1 + ((t_litLength r1.toNatClampNeg) + r2)) fun y3 => chk (inb v4_1 513) <| bnd1 (m_MD_symbolOfFar F (t_tokenFar v4_1.toNatClampNeg)) fun r3 =>
chk (inb r3 32) <| chk (inb v4_1 513) <| bnd1 (m_MD_extraOfFar F (t_tokenFar v4_1.toNatClampNeg)) fun r4 =>
nm (y3 + ((t_farLength r3.toNatClampNeg) + r4)) fun y4 => some y4) fun z1 =>
chk (inb v4_1 513) <| nm (v3_1 + (t_tokenSize v4_1.toNatClampNeg)) fun y5 => nm (v4_1 + Int32.ofInt (1)) fun y6 => rec z1 y5 y6)
def L_MD_bitsOfTokens_14 (F : Nat) (t_bytes t_farLength t_litLength t_tokenFar t_tokenSize : Nat → Int32) (t_tokens : Int32) : Nat → Int32 → Int32 → Int32 → Option (Int32 × Int32 × Int32)
  | 0 => fun _ _ _ => none
  | f + 1 => fun v2_1 v3_1 v4_1 => B_MD_bitsOfTokens_14 F t_bytes t_farLength t_litLength t_tokenFar t_tokenSize t_tokens (L_MD_bitsOfTokens_14 F t_bytes t_farLength t_litLength t_tokenFar t_tokenSize t_tokens f) v2_1 v3_1 v4_1
def m_MD_bitsOfTokens (F : Nat) (t_bytes t_farLength t_litLength t_tokenFar t_tokenSize : Nat → Int32) (t_tokens x1 : Int32) : Option (Int32) :=
chk (inb (256 : Int32) 288) <| nm (t_litLength (256 : Int32).toNatClampNeg) fun y1 => bnd3 (L_MD_bitsOfTokens_14 F t_bytes t_farLength t_litLength t_tokenFar t_tokenSize t_tokens F y1 x1 (0 : Int32)) fun v2_3 v3_3 v4_3 =>
some v2_3
def m_MD_addRow (F : Nat) (t_rowMore : Nat → Int32) (t_rowSize : Int32) (t_rowSymbol : Nat → Int32) (x1 x2 : Int32) : Option (Int32 × (Nat → Int32) × (Nat → Int32)) :=
chk (inb t_rowSize 330) <| nm (upd t_rowSymbol t_rowSize.toNatClampNeg x1) fun t_rowSymbol1 => chk (inb t_rowSize 330) <| nm (upd t_rowMore t_rowSize.toNatClampNeg x2) fun t_rowMore1 => nm (t_rowSize + (1 : Int32)) fun y1 => some (y1, t_rowMore1, t_rowSymbol1)
def B_MD_addRun_2 (F : Nat) (x1 : Int32) (rec : Int32 → Int32 → (Nat → Int32) → (Nat → Int32) → Option (Int32 × Int32 × (Nat → Int32) × (Nat → Int32))) (v3_1 t_rowSize_1 : Int32) (t_rowMore1 t_rowSymbol1 : Nat → Int32) : Option (Int32 × Int32 × (Nat → Int32) × (Nat → Int32)) :=
(if x1 = (0 : Int32) then
(if v3_1 ≤ (10 : Int32) then
some (v3_1, t_rowSize_1, t_rowMore1, t_rowSymbol1)
else
bnd1 (if v3_1 ≤ (138 : Int32) then
some v3_1
else
some (138 : Int32)) fun z1 =>
bnd3 (m_MD_addRow F t_rowMore1 t_rowSize_1 t_rowSymbol1 (18 : Int32) (z1 - (11 : Int32))) fun t_rowSize_3 t_rowMore3 t_rowSymbol3 =>
nm (v3_1 - z1) fun y1 => rec y1 t_rowSize_3 t_rowMore3 t_rowSymbol3)
else
some (v3_1, t_rowSize_1, t_rowMore1, t_rowSymbol1))
def L_MD_addRun_2 (F : Nat) (x1 : Int32) : Nat → Int32 → Int32 → (Nat → Int32) → (Nat → Int32) → Option (Int32 × Int32 × (Nat → Int32) × (Nat → Int32))
  | 0 => fun _ _ _ _ => none
  | f + 1 => fun v3_1 t_rowSize_1 t_rowMore1 t_rowSymbol1 => B_MD_addRun_2 F x1 (L_MD_addRun_2 F x1 f) v3_1 t_rowSize_1 t_rowMore1 t_rowSymbol1
def B_MD_addRun_80 (F : Nat)  (rec : Int32 → Int32 → (Nat → Int32) → (Nat → Int32) → Option (Int32 × Int32 × (Nat → Int32) × (Nat → Int32))) (v3_4 t_rowSize_7 : Int32) (t_rowMore9 t_rowSymbol9 : Nat → Int32) : Option (Int32 × Int32 × (Nat → Int32) × (Nat → Int32)) :=
(if v3_4 ≤ (2 : Int32) then
some (v3_4, t_rowSize_7, t_rowMore9, t_rowSymbol9)
else
bnd1 (if v3_4 ≤ (6 : Int32) then
some v3_4
else
some (6 : Int32)) fun z6 =>
bnd3 (m_MD_addRow F t_rowMore9 t_rowSize_7 t_rowSymbol9 (16 : Int32) (z6 - (3 : Int32))) fun t_rowSize_9 t_rowMore11 t_rowSymbol11 =>
nm (v3_4 - z6) fun y3 => rec y3 t_rowSize_9 t_rowMore11 t_rowSymbol11)
def L_MD_addRun_80 (F : Nat)  : Nat → Int32 → Int32 → (Nat → Int32) → (Nat → Int32) → Option (Int32 × Int32 × (Nat → Int32) × (Nat → Int32))
  | 0 => fun _ _ _ _ => none
  | f + 1 => fun v3_4 t_rowSize_7 t_rowMore9 t_rowSymbol9 => B_MD_addRun_80 F  (L_MD_addRun_80 F  f) v3_4 t_rowSize_7 t_rowMore9 t_rowSymbol9
def B_MD_addRun_120 (F : Nat) (x1 z4 : Int32) (rec : Int32 → Int32 → (Nat → Int32) → (Nat → Int32) → Option (Int32 × Int32 × (Nat → Int32) × (Nat → Int32))) (v4_1 t_rowSize_11 : Int32) (t_rowMore13 t_rowSymbol13 : Nat → Int32) : Option (Int32 × Int32 × (Nat → Int32) × (Nat → Int32)) :=
(if z4 ≤ v4_1 then
some (v4_1, t_rowSize_11, t_rowMore13, t_rowSymbol13)
else
bnd3 (m_MD_addRow F t_rowMore13 t_rowSize_11 t_rowSymbol13 x1 (0 : Int32)) fun t_rowSize_13 t_rowMore15 t_rowSymbol15 =>
nm (v4_1 + Int32.ofInt (1)) fun y4 => rec y4 t_rowSize_13 t_rowMore15 t_rowSymbol15)
def L_MD_addRun_120 (F : Nat) (x1 z4 : Int32) : Nat → Int32 → Int32 → (Nat → Int32) → (Nat → Int32) → Option (Int32 × Int32 × (Nat → Int32) × (Nat → Int32))
  | 0 => fun _ _ _ _ => none
  | f + 1 => fun v4_1 t_rowSize_11 t_rowMore13 t_rowSymbol13 => B_MD_addRun_120 F x1 z4 (L_MD_addRun_120 F x1 z4 f) v4_1 t_rowSize_11 t_rowMore13 t_rowSymbol13
def m_MD_addRun (F : Nat) (t_rowMore : Nat → Int32) (t_rowSize : Int32) (t_rowSymbol : Nat → Int32) (x1 x2 : Int32) : Option (Int32 × (Nat → Int32) × (Nat → Int32)) :=
bnd4 (L_MD_addRun_2 F x1 F x2 t_rowSize t_rowMore t_rowSymbol) fun v3_3 t_rowSize_4 t_rowMore4 t_rowSymbol4 =>
bnd4 (if x1 = (0 : Int32) then
(if v3_3 ≤ (2 : Int32) then
some (v3_3, t_rowSize_4, t_rowMore4, t_rowSymbol4)
else
bnd3 (m_MD_addRow F t_rowMore4 t_rowSize_4 t_rowSymbol4 (17 : Int32) (v3_3 - (3 : Int32))) fun t_rowSize_5 t_rowMore6 t_rowSymbol6 =>
some ((0 : Int32), t_rowSize_5, t_rowMore6, t_rowSymbol6))
else
some (v3_3, t_rowSize_4, t_rowMore4, t_rowSymbol4)) fun z2 z3 t_rowMore5 t_rowSymbol5 =>
bnd4 (if x1 ≤ (0 : Int32) then
some (z2, z3, t_rowMore5, t_rowSymbol5)
else
bnd3 (m_MD_addRow F t_rowMore5 z3 t_rowSymbol5 x1 (0 : Int32)) fun t_rowSize_6 t_rowMore8 t_rowSymbol8 =>
nm (z2 + Int32.ofInt (-1)) fun y2 => bnd4 (L_MD_addRun_80 F  F y2 t_rowSize_6 t_rowMore8 t_rowSymbol8) fun v3_6 t_rowSize_10 t_rowMore12 t_rowSymbol12 =>
some (v3_6, t_rowSize_10, t_rowMore12, t_rowSymbol12)) fun z4 z5 t_rowMore7 t_rowSymbol7 =>
bnd4 (L_MD_addRun_120 F x1 z4 F (0 : Int32) z5 t_rowMore7 t_rowSymbol7) fun v4_3 t_rowSize_14 t_rowMore16 t_rowSymbol16 =>
some (t_rowSize_14, t_rowMore16, t_rowSymbol16)
def m_MD_lengthInRow (F : Nat) (t_farLength t_litLength : Nat → Int32) (t_litMany x1 : Int32) : Option (Int32) :=
(if t_litMany ≤ x1 then
chk (inb (x1 - t_litMany) 32) <| some (t_farLength (x1 - t_litMany).toNatClampNeg)
else
chk (inb x1 288) <| some (t_litLength x1.toNatClampNeg))
def m_MD_orderOf (F : Nat) (x0 : Int32) : Option (Int32) :=
(if (3 : Int32) ≤ x0 then
(if x0 = (3 : Int32) then
some (0 : Int32)
else
(if (x0 - x0 / (2 : Int32) * (2 : Int32)) = (0 : Int32) then
some ((6 : Int32) + (x0 / (2 : Int32)))
else
some (((19 : Int32) - x0) / (2 : Int32))))
else
some ((16 : Int32) + x0))
def B_MD_isLong_4 (F : Nat) (t_setLength : Nat → Int32) (rec : Int32 → Int32 → Option (Int32 × Int32)) (v1_1 v2_1 : Int32) : Option (Int32 × Int32) :=
(if (19 : Int32) ≤ v2_1 then
some (v1_1, v2_1)
else
bnd1 (if v1_1 = (0 : Int32) then
chk (inb v2_1 19) <| (if (t_setLength v2_1.toNatClampNeg) ≤ (7 : Int32) then
some (0 : Int32)
else
some (1 : Int32))
else
some (1 : Int32)) fun z1 =>
nm (v2_1 + Int32.ofInt (1)) fun y1 => rec z1 y1)
def L_MD_isLong_4 (F : Nat) (t_setLength : Nat → Int32) : Nat → Int32 → Int32 → Option (Int32 × Int32)
  | 0 => fun _ _ => none
  | f + 1 => fun v1_1 v2_1 => B_MD_isLong_4 F t_setLength (L_MD_isLong_4 F t_setLength f) v1_1 v2_1
def m_MD_isLong (F : Nat) (t_setLength : Nat → Int32) : Option (Int32) :=
bnd2 (L_MD_isLong_4 F t_setLength F (0 : Int32) (0 : Int32)) fun v1_3 v2_3 =>
chk (isb v1_3) <| some v1_3
def B_MD_ownCodes_41 (F : Nat) (t_litLength1 : Nat → Int32) (rec : Int32 → Option (Int32)) (t_litMany_1 : Int32) : Option (Int32) :=
(if t_litMany_1 ≤ (257 : Int32) then
some t_litMany_1
else
chk (inb (t_litMany_1 - (1 : Int32)) 288) <| (if (t_litLength1 (t_litMany_1 - (1 : Int32)).toNatClampNeg) = (0 : Int32) then
nm (t_litMany_1 - (1 : Int32)) fun y1 => rec y1
else
some t_litMany_1))
def L_MD_ownCodes_41 (F : Nat) (t_litLength1 : Nat → Int32) : Nat → Int32 → Option (Int32)
  | 0 => fun _ => none
  | f + 1 => fun t_litMany_1 => B_MD_ownCodes_41 F t_litLength1 (L_MD_ownCodes_41 F t_litLength1 f) t_litMany_1
def B_MD_ownCodes_84 (F : Nat) (t_farLength1 : Nat → Int32) (rec : Int32 → Option (Int32)) (t_farMany_1 : Int32) : Option (Int32) :=
(if t_farMany_1 ≤ (1 : Int32) then
some t_farMany_1
else
chk (inb (t_farMany_1 - (1 : Int32)) 32) <| (if (t_farLength1 (t_farMany_1 - (1 : Int32)).toNatClampNeg) = (0 : Int32) then
nm (t_farMany_1 - (1 : Int32)) fun y2 => rec y2
else
some t_farMany_1))
def L_MD_ownCodes_84 (F : Nat) (t_farLength1 : Nat → Int32) : Nat → Int32 → Option (Int32)
  | 0 => fun _ => none
  | f + 1 => fun t_farMany_1 => B_MD_ownCodes_84 F t_farLength1 (L_MD_ownCodes_84 F t_farLength1 f) t_farMany_1
def B_MD_ownCodes_128 (F : Nat) (t_farLength1 : Nat → Int32) (t_farMany_3 : Int32) (t_litLength1 : Nat → Int32) (t_litMany_3 : Int32) (rec : Int32 → Int32 → Int32 → (Nat → Int32) → (Nat → Int32) → Option (Int32 × Int32 × Int32 × (Nat → Int32) × (Nat → Int32))) (v2_1 v3_1 t_rowSize_1 : Int32) (t_rowMore1 t_rowSymbol1 : Nat → Int32) : Option (Int32 × Int32 × Int32 × (Nat → Int32) × (Nat → Int32)) :=
(if (t_litMany_3 + t_farMany_3) < v3_1 then
some (v2_1, v3_1, t_rowSize_1, t_rowMore1, t_rowSymbol1)
else
bnd4 (if v3_1 = (t_litMany_3 + t_farMany_3) then
bnd1 (m_MD_lengthInRow F t_farLength1 t_litLength1 t_litMany_3 v2_1) fun r1 =>
bnd3 (m_MD_addRun F t_rowMore1 t_rowSize_1 t_rowSymbol1 r1 (v3_1 - v2_1)) fun t_rowSize_3 t_rowMore4 t_rowSymbol4 =>
some (v3_1, t_rowSize_3, t_rowMore4, t_rowSymbol4)
else
bnd1 (m_MD_lengthInRow F t_farLength1 t_litLength1 t_litMany_3 v3_1) fun r2 =>
bnd1 (m_MD_lengthInRow F t_farLength1 t_litLength1 t_litMany_3 v2_1) fun r3 =>
(if r2 = r3 then
some (v2_1, t_rowSize_1, t_rowMore1, t_rowSymbol1)
else
bnd1 (m_MD_lengthInRow F t_farLength1 t_litLength1 t_litMany_3 v2_1) fun r4 =>
bnd3 (m_MD_addRun F t_rowMore1 t_rowSize_1 t_rowSymbol1 r4 (v3_1 - v2_1)) fun t_rowSize_4 t_rowMore5 t_rowSymbol5 =>
some (v3_1, t_rowSize_4, t_rowMore5, t_rowSymbol5))) fun z1 z2 t_rowMore3 t_rowSymbol3 =>
nm (v3_1 + Int32.ofInt (1)) fun y3 => rec z1 y3 z2 t_rowMore3 t_rowSymbol3)
def L_MD_ownCodes_128 (F : Nat) (t_farLength1 : Nat → Int32) (t_farMany_3 : Int32) (t_litLength1 : Nat → Int32) (t_litMany_3 : Int32) : Nat → Int32 → Int32 → Int32 → (Nat → Int32) → (Nat → Int32) → Option (Int32 × Int32 × Int32 × (Nat → Int32) × (Nat → Int32))
  | 0 => fun _ _ _ _ _ => none
  | f + 1 => fun v2_1 v3_1 t_rowSize_1 t_rowMore1 t_rowSymbol1 => B_MD_ownCodes_128 F t_farLength1 t_farMany_3 t_litLength1 t_litMany_3 (L_MD_ownCodes_128 F t_farLength1 t_farMany_3 t_litLength1 t_litMany_3 f) v2_1 v3_1 t_rowSize_1 t_rowMore1 t_rowSymbol1
def B_MD_ownCodes_189 (F : Nat)  (rec : Int32 → (Nat → Int32) → Option (Int32 × (Nat → Int32))) (v3_4 : Int32) (t_setCount1 : Nat → Int32) : Option (Int32 × (Nat → Int32)) :=
(if (19 : Int32) ≤ v3_4 then
some (v3_4, t_setCount1)
else
chk (inb v3_4 19) <| nm (upd t_setCount1 v3_4.toNatClampNeg (0 : Int32)) fun t_setCount3 => nm (v3_4 + Int32.ofInt (1)) fun y4 => rec y4 t_setCount3)
def L_MD_ownCodes_189 (F : Nat)  : Nat → Int32 → (Nat → Int32) → Option (Int32 × (Nat → Int32))
  | 0 => fun _ _ => none
  | f + 1 => fun v3_4 t_setCount1 => B_MD_ownCodes_189 F  (L_MD_ownCodes_189 F  f) v3_4 t_setCount1
def B_MD_ownCodes_210 (F : Nat) (t_rowSize_5 : Int32) (t_rowSymbol6 : Nat → Int32) (rec : Int32 → (Nat → Int32) → Option (Int32 × (Nat → Int32))) (v3_7 : Int32) (t_setCount5 : Nat → Int32) : Option (Int32 × (Nat → Int32)) :=
(if t_rowSize_5 ≤ v3_7 then
some (v3_7, t_setCount5)
else
chk (inb v3_7 330) <| chk (inb (t_rowSymbol6 v3_7.toNatClampNeg) 19) <| chk (inb (t_rowSymbol6 v3_7.toNatClampNeg) 19) <| nm (upd t_setCount5 (t_rowSymbol6 v3_7.toNatClampNeg).toNatClampNeg ((t_setCount5 (t_rowSymbol6 v3_7.toNatClampNeg).toNatClampNeg) + (1 : Int32))) fun t_setCount7 => nm (v3_7 + Int32.ofInt (1)) fun y5 => rec y5 t_setCount7)
def L_MD_ownCodes_210 (F : Nat) (t_rowSize_5 : Int32) (t_rowSymbol6 : Nat → Int32) : Nat → Int32 → (Nat → Int32) → Option (Int32 × (Nat → Int32))
  | 0 => fun _ _ => none
  | f + 1 => fun v3_7 t_setCount5 => B_MD_ownCodes_210 F t_rowSize_5 t_rowSymbol6 (L_MD_ownCodes_210 F t_rowSize_5 t_rowSymbol6 f) v3_7 t_setCount5
def B_MD_ownCodes_262 (F : Nat)  (rec : Int32 → (Nat → Int32) → Option (Int32 × (Nat → Int32))) (v3_10 : Int32) (t_setCount11 : Nat → Int32) : Option (Int32 × (Nat → Int32)) :=
(if (19 : Int32) ≤ v3_10 then
some (v3_10, t_setCount11)
else
chk (inb v3_10 19) <| chk (inb v3_10 19) <| nm (upd t_setCount11 v3_10.toNatClampNeg (((t_setCount11 v3_10.toNatClampNeg) + (1 : Int32)) / (2 : Int32))) fun t_setCount13 => nm (v3_10 + Int32.ofInt (1)) fun y6 => rec y6 t_setCount13)
def L_MD_ownCodes_262 (F : Nat)  : Nat → Int32 → (Nat → Int32) → Option (Int32 × (Nat → Int32))
  | 0 => fun _ _ => none
  | f + 1 => fun v3_10 t_setCount11 => B_MD_ownCodes_262 F  (L_MD_ownCodes_262 F  f) v3_10 t_setCount11
def B_MD_ownCodes_253 (F : Nat)  (rec : (Nat → Int32) → (Nat → Int32) → (Nat → Int32) → (Nat → Int32) → Option ((Nat → Int32) × (Nat → Int32) × (Nat → Int32) × (Nat → Int32))) (t_setCount9 t_setLength2 t_upper4 t_weight4 : Nat → Int32) : Option ((Nat → Int32) × (Nat → Int32) × (Nat → Int32) × (Nat → Int32)) :=
bnd1 (m_MD_isLong F t_setLength2) fun r5 =>
(if r5 = (0 : Int32) then
some (t_setCount9, t_setLength2, t_upper4, t_weight4)
else
bnd2 (L_MD_ownCodes_262 F  F (0 : Int32) t_setCount9) fun v3_12 t_setCount14 =>
bnd3 (m_MD_join F 19 19 t_setCount14 t_setLength2 t_upper4 t_weight4 (19 : Int32)) fun t_setLength4 t_upper6 t_weight6 =>
rec t_setCount14 t_setLength4 t_upper6 t_weight6)
def L_MD_ownCodes_253 (F : Nat)  : Nat → (Nat → Int32) → (Nat → Int32) → (Nat → Int32) → (Nat → Int32) → Option ((Nat → Int32) × (Nat → Int32) × (Nat → Int32) × (Nat → Int32))
  | 0 => fun _ _ _ _ => none
  | f + 1 => fun t_setCount9 t_setLength2 t_upper4 t_weight4 => B_MD_ownCodes_253 F  (L_MD_ownCodes_253 F  f) t_setCount9 t_setLength2 t_upper4 t_weight4
def B_MD_ownCodes_313 (F : Nat) (t_setLength5 : Nat → Int32) (rec : Int32 → Option (Int32)) (t_setMany_1 : Int32) : Option (Int32) :=
(if t_setMany_1 ≤ (4 : Int32) then
some t_setMany_1
else
bnd1 (m_MD_orderOf F (t_setMany_1 - (1 : Int32))) fun r6 =>
chk (inb r6 19) <| (if (t_setLength5 r6.toNatClampNeg) = (0 : Int32) then
nm (t_setMany_1 - (1 : Int32)) fun y7 => rec y7
else
some t_setMany_1))
def L_MD_ownCodes_313 (F : Nat) (t_setLength5 : Nat → Int32) : Nat → Int32 → Option (Int32)
  | 0 => fun _ => none
  | f + 1 => fun t_setMany_1 => B_MD_ownCodes_313 F t_setLength5 (L_MD_ownCodes_313 F t_setLength5 f) t_setMany_1
def m_MD_ownCodes (F : Nat) (t_bytes t_farCount t_farLength t_litCount t_litLength t_rowMore t_rowSymbol t_setCount t_setLength t_tokenFar t_tokenSize : Nat → Int32) (t_tokens : Int32) (t_upper t_weight : Nat → Int32) (x1 : Int32) : Option (Int32 × Int32 × Int32 × Int32 × (Nat → Int32) × (Nat → Int32) × (Nat → Int32) × (Nat → Int32) × (Nat → Int32) × (Nat → Int32) × (Nat → Int32) × (Nat → Int32) × (Nat → Int32) × (Nat → Int32)) :=
bnd2 (m_MD_countTokens F t_bytes t_farCount t_litCount t_tokenFar t_tokenSize t_tokens x1) fun t_farCount1 t_litCount1 =>
bnd3 (m_MD_join F 288 288 t_litCount1 t_litLength t_upper t_weight (288 : Int32)) fun t_litLength1 t_upper1 t_weight1 =>
bnd3 (m_MD_join F 32 32 t_farCount1 t_farLength t_upper1 t_weight1 (32 : Int32)) fun t_farLength1 t_upper2 t_weight2 =>
bnd1 (L_MD_ownCodes_41 F t_litLength1 F (286 : Int32)) fun t_litMany_3 =>
bnd1 (L_MD_ownCodes_84 F t_farLength1 F (30 : Int32)) fun t_farMany_3 =>
bnd5 (L_MD_ownCodes_128 F t_farLength1 t_farMany_3 t_litLength1 t_litMany_3 F (0 : Int32) (1 : Int32) (0 : Int32) t_rowMore t_rowSymbol) fun v2_3 v3_3 t_rowSize_5 t_rowMore6 t_rowSymbol6 =>
bnd2 (L_MD_ownCodes_189 F  F (0 : Int32) t_setCount) fun v3_6 t_setCount4 =>
bnd2 (L_MD_ownCodes_210 F t_rowSize_5 t_rowSymbol6 F (0 : Int32) t_setCount4) fun v3_9 t_setCount8 =>
bnd3 (m_MD_join F 19 19 t_setCount8 t_setLength t_upper2 t_weight2 (19 : Int32)) fun t_setLength1 t_upper3 t_weight3 =>
bnd4 (L_MD_ownCodes_253 F  F t_setCount8 t_setLength1 t_upper3 t_weight3) fun t_setCount15 t_setLength5 t_upper7 t_weight7 =>
bnd1 (L_MD_ownCodes_313 F t_setLength5 F (19 : Int32)) fun t_setMany_3 =>
some (t_rowSize_5, t_litMany_3, t_farMany_3, t_setMany_3, t_farCount1, t_farLength1, t_litCount1, t_litLength1, t_rowMore6, t_rowSymbol6, t_setCount15, t_setLength5, t_upper7, t_weight7)
def m_MD_extraOfRow (F : Nat) (x0 : Int32) : Option (Int32) :=
(if x0 = (16 : Int32) then
some (2 : Int32)
else
(if x0 = (17 : Int32) then
some (3 : Int32)
else
(if x0 = (18 : Int32) then
some (7 : Int32)
else
some (0 : Int32))))
def B_MD_bitsOfRow_4 (F : Nat) (t_rowSize : Int32) (t_rowSymbol t_setLength : Nat → Int32) (rec : Int32 → Int32 → Option (Int32 × Int32)) (v1_1 v2_1 : Int32) : Option (Int32 × Int32) :=
(if t_rowSize ≤ v2_1 then
some (v1_1, v2_1)
else
chk (inb v2_1 330) <| chk (inb (t_rowSymbol v2_1.toNatClampNeg) 19) <| chk (inb v2_1 330) <| bnd1 (m_MD_extraOfRow F (t_rowSymbol v2_1.toNatClampNeg)) fun r1 =>
nm (v1_1 + ((t_setLength (t_rowSymbol v2_1.toNatClampNeg).toNatClampNeg) + r1)) fun y1 => nm (v2_1 + Int32.ofInt (1)) fun y2 => rec y1 y2)
def L_MD_bitsOfRow_4 (F : Nat) (t_rowSize : Int32) (t_rowSymbol t_setLength : Nat → Int32) : Nat → Int32 → Int32 → Option (Int32 × Int32)
  | 0 => fun _ _ => none
  | f + 1 => fun v1_1 v2_1 => B_MD_bitsOfRow_4 F t_rowSize t_rowSymbol t_setLength (L_MD_bitsOfRow_4 F t_rowSize t_rowSymbol t_setLength f) v1_1 v2_1
def m_MD_bitsOfRow (F : Nat) (t_rowSize : Int32) (t_rowSymbol t_setLength : Nat → Int32) : Option (Int32) :=
bnd2 (L_MD_bitsOfRow_4 F t_rowSize t_rowSymbol t_setLength F (0 : Int32) (0 : Int32)) fun v1_3 v2_3 =>
some v1_3
def B_MD_findMatch_127 (F : Nat) (t_bytes : Nat → Int32) (v5_1 x1 x2 : Int32) (rec : Int32 → Option (Int32)) (v6_1 : Int32) : Option (Int32) :=
(if (258 : Int32) ≤ v6_1 then
some v6_1
else
(if x2 ≤ (x1 + v6_1) then
some v6_1
else
chk (inb (v5_1 + v6_1) 512) <| chk (inb (x1 + v6_1) 512) <| (if (t_bytes (v5_1 + v6_1).toNatClampNeg) = (t_bytes (x1 + v6_1).toNatClampNeg) then
nm (v6_1 + Int32.ofInt (1)) fun y3 => rec y3
else
some v6_1)))
def L_MD_findMatch_127 (F : Nat) (t_bytes : Nat → Int32) (v5_1 x1 x2 : Int32) : Nat → Int32 → Option (Int32)
  | 0 => fun _ => none
  | f + 1 => fun v6_1 => B_MD_findMatch_127 F t_bytes v5_1 x1 x2 (L_MD_findMatch_127 F t_bytes v5_1 x1 x2 f) v6_1
def B_MD_findMatch_31 (F : Nat) (t_bytes : Nat → Int32) (x1 x2 x3 : Int32) (rec : Int32 → Int32 → Int32 → (Nat → Int32) → (Nat → Int32) → Option (Int32 × Int32 × Int32 × (Nat → Int32) × (Nat → Int32))) (v4_1 v5_1 t_steps_1 : Int32) (t_matchFar1 t_matchSize2 : Nat → Int32) : Option (Int32 × Int32 × Int32 × (Nat → Int32) × (Nat → Int32)) :=
(if v5_1 < (0 : Int32) then
some (v4_1, v5_1, t_steps_1, t_matchFar1, t_matchSize2)
else
(if v4_1 ≤ (0 : Int32) then
some (v4_1, v5_1, t_steps_1, t_matchFar1, t_matchSize2)
else
chk (inb v5_1 512) <| chk (inb x1 512) <| bnd4 (if (t_bytes v5_1.toNatClampNeg) = (t_bytes x1.toNatClampNeg) then
chk (inb (v5_1 + (1 : Int32)) 512) <| chk (inb (x1 + (1 : Int32)) 512) <| (if (t_bytes (v5_1 + (1 : Int32)).toNatClampNeg) = (t_bytes (x1 + (1 : Int32)).toNatClampNeg) then
chk (inb (v5_1 + (2 : Int32)) 512) <| chk (inb (x1 + (2 : Int32)) 512) <| (if (t_bytes (v5_1 + (2 : Int32)).toNatClampNeg) = (t_bytes (x1 + (2 : Int32)).toNatClampNeg) then
nm (v4_1 + Int32.ofInt (-1)) fun y2 => bnd1 (if x3 = (0 : Int32) then
some t_steps_1
else
some (t_steps_1 + (1 : Int32))) fun z4 =>
bnd1 (L_MD_findMatch_127 F t_bytes v5_1 x1 x2 F (0 : Int32)) fun v6_3 =>
chk (inb x1 514) <| (if v6_3 ≤ (t_matchSize2 x1.toNatClampNeg) then
some (y2, z4, t_matchFar1, t_matchSize2)
else
chk (inb x1 514) <| nm (upd t_matchSize2 x1.toNatClampNeg v6_3) fun t_matchSize5 => chk (inb x1 514) <| nm (upd t_matchFar1 x1.toNatClampNeg (x1 - v5_1)) fun t_matchFar4 => some (y2, z4, t_matchFar4, t_matchSize5))
else
some (v4_1, t_steps_1, t_matchFar1, t_matchSize2))
else
some (v4_1, t_steps_1, t_matchFar1, t_matchSize2))
else
some (v4_1, t_steps_1, t_matchFar1, t_matchSize2)) fun z2 z3 t_matchFar3 t_matchSize4 =>
nm (v5_1 + Int32.ofInt (-1)) fun y4 => rec z2 y4 z3 t_matchFar3 t_matchSize4))
def L_MD_findMatch_31 (F : Nat) (t_bytes : Nat → Int32) (x1 x2 x3 : Int32) : Nat → Int32 → Int32 → Int32 → (Nat → Int32) → (Nat → Int32) → Option (Int32 × Int32 × Int32 × (Nat → Int32) × (Nat → Int32))
  | 0 => fun _ _ _ _ _ => none
  | f + 1 => fun v4_1 v5_1 t_steps_1 t_matchFar1 t_matchSize2 => B_MD_findMatch_31 F t_bytes x1 x2 x3 (L_MD_findMatch_31 F t_bytes x1 x2 x3 f) v4_1 v5_1 t_steps_1 t_matchFar1 t_matchSize2
def m_MD_findMatch (F : Nat) (t_bytes : Nat → Int32) (t_effort : Int32) (t_matchFar t_matchSize : Nat → Int32) (t_steps x1 x2 x3 : Int32) : Option (Int32 × (Nat → Int32) × (Nat → Int32)) :=
chk (inb x1 514) <| nm (upd t_matchSize x1.toNatClampNeg (0 : Int32)) fun t_matchSize1 => bnd1 (if (3 : Int32) ≤ (x2 - x1) then
some ((4 : Int32) * t_effort)
else
some (0 : Int32)) fun z1 =>
nm (x1 - (1 : Int32)) fun y1 => bnd5 (L_MD_findMatch_31 F t_bytes x1 x2 x3 F z1 y1 t_steps t_matchFar t_matchSize1) fun v4_3 v5_3 t_steps_3 t_matchFar5 t_matchSize6 =>
some (t_steps_3, t_matchFar5, t_matchSize6)
def m_MD_addToken (F : Nat) (t_tokenFar t_tokenSize : Nat → Int32) (t_tokens x1 x2 : Int32) : Option (Int32 × (Nat → Int32) × (Nat → Int32)) :=
chk (inb t_tokens 513) <| nm (upd t_tokenSize t_tokens.toNatClampNeg x1) fun t_tokenSize1 => chk (inb t_tokens 513) <| nm (upd t_tokenFar t_tokens.toNatClampNeg x2) fun t_tokenFar1 => nm (t_tokens + (1 : Int32)) fun y1 => some (y1, t_tokenFar1, t_tokenSize1)
def B_MD_firstTokens_7 (F : Nat) (t_effort : Int32) (t_matchFar t_matchSize : Nat → Int32) (x2 : Int32) (rec : Int32 → Int32 → (Nat → Int32) → (Nat → Int32) → Option (Int32 × Int32 × (Nat → Int32) × (Nat → Int32))) (v3_1 t_tokens_1 : Int32) (t_tokenFar1 t_tokenSize1 : Nat → Int32) : Option (Int32 × Int32 × (Nat → Int32) × (Nat → Int32)) :=
(if x2 ≤ v3_1 then
some (v3_1, t_tokens_1, t_tokenFar1, t_tokenSize1)
else
(if t_effort ≤ (0 : Int32) then
some (v3_1, t_tokens_1, t_tokenFar1, t_tokenSize1)
else
bnd1 (if t_effort ≤ (3 : Int32) then
some (0 : Int32)
else
(if x2 ≤ (v3_1 + (1 : Int32)) then
some (0 : Int32)
else
chk (inb (v3_1 + (1 : Int32)) 514) <| chk (inb v3_1 514) <| (if (t_matchSize (v3_1 + (1 : Int32)).toNatClampNeg) ≤ (t_matchSize v3_1.toNatClampNeg) then
some (0 : Int32)
else
some (1 : Int32)))) fun z1 =>
chk (inb v3_1 514) <| bnd1 (if (t_matchSize v3_1.toNatClampNeg) < (3 : Int32) then
some (1 : Int32)
else
(if z1 = (0 : Int32) then
chk (inb v3_1 514) <| some (t_matchSize v3_1.toNatClampNeg)
else
some (1 : Int32))) fun z2 =>
bnd1 (if z2 = (1 : Int32) then
some (0 : Int32)
else
chk (inb v3_1 514) <| some (t_matchFar v3_1.toNatClampNeg)) fun z3 =>
bnd3 (m_MD_addToken F t_tokenFar1 t_tokenSize1 t_tokens_1 z2 z3) fun t_tokens_3 t_tokenFar3 t_tokenSize3 =>
nm (v3_1 + z2) fun y1 => rec y1 t_tokens_3 t_tokenFar3 t_tokenSize3))
def L_MD_firstTokens_7 (F : Nat) (t_effort : Int32) (t_matchFar t_matchSize : Nat → Int32) (x2 : Int32) : Nat → Int32 → Int32 → (Nat → Int32) → (Nat → Int32) → Option (Int32 × Int32 × (Nat → Int32) × (Nat → Int32))
  | 0 => fun _ _ _ _ => none
  | f + 1 => fun v3_1 t_tokens_1 t_tokenFar1 t_tokenSize1 => B_MD_firstTokens_7 F t_effort t_matchFar t_matchSize x2 (L_MD_firstTokens_7 F t_effort t_matchFar t_matchSize x2 f) v3_1 t_tokens_1 t_tokenFar1 t_tokenSize1
def m_MD_firstTokens (F : Nat) (t_effort : Int32) (t_matchFar t_matchSize t_tokenFar t_tokenSize : Nat → Int32) (x1 x2 : Int32) : Option (Int32 × (Nat → Int32) × (Nat → Int32)) :=
bnd4 (L_MD_firstTokens_7 F t_effort t_matchFar t_matchSize x2 F x1 (0 : Int32) t_tokenFar t_tokenSize) fun v3_3 t_tokens_4 t_tokenFar4 t_tokenSize4 =>
some (t_tokens_4, t_tokenFar4, t_tokenSize4)
def m_MD_weigh (F : Nat) (t_bytes : Nat → Int32) (t_effort : Int32) (t_farCount t_farLength : Nat → Int32) (t_farMany : Int32) (t_litCount t_litLength : Nat → Int32) (t_litMany : Int32) (t_rowMore : Nat → Int32) (t_rowSize : Int32) (t_rowSymbol t_setCount t_setLength : Nat → Int32) (t_setMany : Int32) (t_tokenFar t_tokenSize : Nat → Int32) (t_tokens : Int32) (t_upper t_weight : Nat → Int32) (x1 x2 : Int32) : Option (Int32 × Int32 × Int32 × Int32 × Int32 × Int32 × (Nat → Int32) × (Nat → Int32) × (Nat → Int32) × (Nat → Int32) × (Nat → Int32) × (Nat → Int32) × (Nat → Int32) × (Nat → Int32) × (Nat → Int32) × (Nat → Int32)) :=
nm ((42 : Int32) + ((8 : Int32) * (x2 - x1))) fun y1 => (if t_effort = (0 : Int32) then
some ((0 : Int32), y1, t_rowSize, t_litMany, t_farMany, t_setMany, t_farCount, t_farLength, t_litCount, t_litLength, t_rowMore, t_rowSymbol, t_setCount, t_setLength, t_upper, t_weight)
else
bnd2 (m_MD_fixedCodes F t_farLength t_litLength) fun t_farLength1 t_litLength1 =>
bnd1 (m_MD_bitsOfTokens F t_bytes t_farLength1 t_litLength1 t_tokenFar t_tokenSize t_tokens x1) fun r1 =>
nm ((3 : Int32) + r1) fun y2 => bnd2 (if y1 ≤ y2 then
some ((0 : Int32), y1)
else
some ((1 : Int32), y2)) fun z1 z2 =>
bnd14 (m_MD_ownCodes F t_bytes t_farCount t_farLength1 t_litCount t_litLength1 t_rowMore t_rowSymbol t_setCount t_setLength t_tokenFar t_tokenSize t_tokens t_upper t_weight x1) fun t_rowSize_1 t_litMany_1 t_farMany_1 t_setMany_1 t_farCount1 t_farLength2 t_litCount1 t_litLength2 t_rowMore1 t_rowSymbol1 t_setCount1 t_setLength1 t_upper1 t_weight1 =>
bnd1 (m_MD_bitsOfRow F t_rowSize_1 t_rowSymbol1 t_setLength1) fun r2 =>
bnd1 (m_MD_bitsOfTokens F t_bytes t_farLength2 t_litLength2 t_tokenFar t_tokenSize t_tokens x1) fun r3 =>
nm ((((17 : Int32) + ((3 : Int32) * t_setMany_1)) + r2) + r3) fun y3 => (if z2 ≤ y3 then
some (z1, z2, t_rowSize_1, t_litMany_1, t_farMany_1, t_setMany_1, t_farCount1, t_farLength2, t_litCount1, t_litLength2, t_rowMore1, t_rowSymbol1, t_setCount1, t_setLength1, t_upper1, t_weight1)
else
some ((2 : Int32), y3, t_rowSize_1, t_litMany_1, t_farMany_1, t_setMany_1, t_farCount1, t_farLength2, t_litCount1, t_litLength2, t_rowMore1, t_rowSymbol1, t_setCount1, t_setLength1, t_upper1, t_weight1)))
def m_MD_priceOfMatch (F : Nat) (t_farLength t_litLength : Nat → Int32) (x1 x2 : Int32) : Option (Int32) :=
bnd1 (m_MD_symbolOfSize F x1) fun r1 =>
bnd1 (m_MD_symbolOfFar F x2) fun r2 =>
chk (inb r1 288) <| bnd1 (if (t_litLength r1.toNatClampNeg) ≤ (0 : Int32) then
some (12 : Int32)
else
chk (inb r1 288) <| some (t_litLength r1.toNatClampNeg)) fun z1 =>
chk (inb r2 32) <| bnd1 (if (t_farLength r2.toNatClampNeg) ≤ (0 : Int32) then
some (6 : Int32)
else
chk (inb r2 32) <| some (t_farLength r2.toNatClampNeg)) fun z2 =>
bnd1 (m_MD_extraOfSize F x1) fun r3 =>
bnd1 (m_MD_extraOfFar F x2) fun r4 =>
some (((z1 + r3) + z2) + r4)
def B_MD_priceTokens_76 (F : Nat) (t_farLength1 t_litLength1 t_matchFar t_matchSize : Nat → Int32) (v3_1 : Int32) (rec : Int32 → (Nat → Int32) → (Nat → Int32) → Option (Int32 × (Nat → Int32) × (Nat → Int32))) (v4_1 : Int32) (t_choice4 t_price5 : Nat → Int32) : Option (Int32 × (Nat → Int32) × (Nat → Int32)) :=
chk (inb v3_1 514) <| (if (t_matchSize v3_1.toNatClampNeg) < v4_1 then
some (v4_1, t_choice4, t_price5)
else
chk (inb (v3_1 + v4_1) 514) <| chk (inb v3_1 514) <| bnd1 (m_MD_priceOfMatch F t_farLength1 t_litLength1 v4_1 (t_matchFar v3_1.toNatClampNeg)) fun r1 =>
nm ((t_price5 (v3_1 + v4_1).toNatClampNeg) + r1) fun y2 => chk (inb v3_1 514) <| bnd2 (if (t_price5 v3_1.toNatClampNeg) ≤ y2 then
some (t_choice4, t_price5)
else
chk (inb v3_1 514) <| nm (upd t_price5 v3_1.toNatClampNeg y2) fun t_price8 => chk (inb v3_1 514) <| nm (upd t_choice4 v3_1.toNatClampNeg v4_1) fun t_choice7 => some (t_choice7, t_price8)) fun t_choice6 t_price7 =>
nm (v4_1 + Int32.ofInt (1)) fun y3 => rec y3 t_choice6 t_price7)
def L_MD_priceTokens_76 (F : Nat) (t_farLength1 t_litLength1 t_matchFar t_matchSize : Nat → Int32) (v3_1 : Int32) : Nat → Int32 → (Nat → Int32) → (Nat → Int32) → Option (Int32 × (Nat → Int32) × (Nat → Int32))
  | 0 => fun _ _ _ => none
  | f + 1 => fun v4_1 t_choice4 t_price5 => B_MD_priceTokens_76 F t_farLength1 t_litLength1 t_matchFar t_matchSize v3_1 (L_MD_priceTokens_76 F t_farLength1 t_litLength1 t_matchFar t_matchSize v3_1 f) v4_1 t_choice4 t_price5
def B_MD_priceTokens_16 (F : Nat) (t_bytes t_farLength1 t_litLength1 t_matchFar t_matchSize : Nat → Int32) (x1 : Int32) (rec : Int32 → (Nat → Int32) → (Nat → Int32) → Option (Int32 × (Nat → Int32) × (Nat → Int32))) (v3_1 : Int32) (t_choice1 t_price2 : Nat → Int32) : Option (Int32 × (Nat → Int32) × (Nat → Int32)) :=
(if v3_1 < x1 then
some (v3_1, t_choice1, t_price2)
else
chk (inb (v3_1 + (1 : Int32)) 514) <| chk (inb v3_1 512) <| chk (inb (t_bytes v3_1.toNatClampNeg) 288) <| bnd1 (if (t_litLength1 (t_bytes v3_1.toNatClampNeg).toNatClampNeg) ≤ (0 : Int32) then
some (12 : Int32)
else
chk (inb v3_1 512) <| chk (inb (t_bytes v3_1.toNatClampNeg) 288) <| some (t_litLength1 (t_bytes v3_1.toNatClampNeg).toNatClampNeg)) fun z1 =>
chk (inb v3_1 514) <| nm (upd t_price2 v3_1.toNatClampNeg ((t_price2 (v3_1 + (1 : Int32)).toNatClampNeg) + z1)) fun t_price4 => chk (inb v3_1 514) <| nm (upd t_choice1 v3_1.toNatClampNeg (1 : Int32)) fun t_choice3 => bnd3 (L_MD_priceTokens_76 F t_farLength1 t_litLength1 t_matchFar t_matchSize v3_1 F (3 : Int32) t_choice3 t_price4) fun v4_3 t_choice8 t_price9 =>
nm (v3_1 + Int32.ofInt (-1)) fun y4 => rec y4 t_choice8 t_price9)
def L_MD_priceTokens_16 (F : Nat) (t_bytes t_farLength1 t_litLength1 t_matchFar t_matchSize : Nat → Int32) (x1 : Int32) : Nat → Int32 → (Nat → Int32) → (Nat → Int32) → Option (Int32 × (Nat → Int32) × (Nat → Int32))
  | 0 => fun _ _ _ => none
  | f + 1 => fun v3_1 t_choice1 t_price2 => B_MD_priceTokens_16 F t_bytes t_farLength1 t_litLength1 t_matchFar t_matchSize x1 (L_MD_priceTokens_16 F t_bytes t_farLength1 t_litLength1 t_matchFar t_matchSize x1 f) v3_1 t_choice1 t_price2
def B_MD_priceTokens_157 (F : Nat) (t_choice9 t_matchFar : Nat → Int32) (x2 : Int32) (rec : Int32 → Int32 → (Nat → Int32) → (Nat → Int32) → Option (Int32 × Int32 × (Nat → Int32) × (Nat → Int32))) (v3_4 t_tokens_1 : Int32) (t_tokenFar1 t_tokenSize1 : Nat → Int32) : Option (Int32 × Int32 × (Nat → Int32) × (Nat → Int32)) :=
(if x2 ≤ v3_4 then
some (v3_4, t_tokens_1, t_tokenFar1, t_tokenSize1)
else
chk (inb v3_4 514) <| chk (inb v3_4 514) <| bnd1 (if (t_choice9 v3_4.toNatClampNeg) = (1 : Int32) then
some (0 : Int32)
else
chk (inb v3_4 514) <| some (t_matchFar v3_4.toNatClampNeg)) fun z2 =>
bnd3 (m_MD_addToken F t_tokenFar1 t_tokenSize1 t_tokens_1 (t_choice9 v3_4.toNatClampNeg) z2) fun t_tokens_3 t_tokenFar3 t_tokenSize3 =>
chk (inb v3_4 514) <| nm (v3_4 + (t_choice9 v3_4.toNatClampNeg)) fun y5 => rec y5 t_tokens_3 t_tokenFar3 t_tokenSize3)
def L_MD_priceTokens_157 (F : Nat) (t_choice9 t_matchFar : Nat → Int32) (x2 : Int32) : Nat → Int32 → Int32 → (Nat → Int32) → (Nat → Int32) → Option (Int32 × Int32 × (Nat → Int32) × (Nat → Int32))
  | 0 => fun _ _ _ _ => none
  | f + 1 => fun v3_4 t_tokens_1 t_tokenFar1 t_tokenSize1 => B_MD_priceTokens_157 F t_choice9 t_matchFar x2 (L_MD_priceTokens_157 F t_choice9 t_matchFar x2 f) v3_4 t_tokens_1 t_tokenFar1 t_tokenSize1
def m_MD_priceTokens (F : Nat) (t_bytes t_choice t_farCount t_farLength t_litCount t_litLength t_matchFar t_matchSize t_price t_rowMore t_rowSymbol t_setCount t_setLength t_tokenFar t_tokenSize : Nat → Int32) (t_tokens : Int32) (t_upper t_weight : Nat → Int32) (x1 x2 : Int32) : Option (Int32 × Int32 × Int32 × Int32 × Int32 × (Nat → Int32) × (Nat → Int32) × (Nat → Int32) × (Nat → Int32) × (Nat → Int32) × (Nat → Int32) × (Nat → Int32) × (Nat → Int32) × (Nat → Int32) × (Nat → Int32) × (Nat → Int32) × (Nat → Int32) × (Nat → Int32) × (Nat → Int32)) :=
bnd14 (m_MD_ownCodes F t_bytes t_farCount t_farLength t_litCount t_litLength t_rowMore t_rowSymbol t_setCount t_setLength t_tokenFar t_tokenSize t_tokens t_upper t_weight x1) fun t_rowSize_1 t_litMany_1 t_farMany_1 t_setMany_1 t_farCount1 t_farLength1 t_litCount1 t_litLength1 t_rowMore1 t_rowSymbol1 t_setCount1 t_setLength1 t_upper1 t_weight1 =>
chk (inb x2 514) <| nm (upd t_price x2.toNatClampNeg (0 : Int32)) fun t_price1 => nm (x2 - (1 : Int32)) fun y1 => bnd3 (L_MD_priceTokens_16 F t_bytes t_farLength1 t_litLength1 t_matchFar t_matchSize x1 F y1 t_choice t_price1) fun v3_3 t_choice9 t_price10 =>
bnd4 (L_MD_priceTokens_157 F t_choice9 t_matchFar x2 F x1 (0 : Int32) t_tokenFar t_tokenSize) fun v3_6 t_tokens_4 t_tokenFar4 t_tokenSize4 =>
some (t_tokens_4, t_rowSize_1, t_litMany_1, t_farMany_1, t_setMany_1, t_choice9, t_farCount1, t_farLength1, t_litCount1, t_litLength1, t_price10, t_rowMore1, t_rowSymbol1, t_setCount1, t_setLength1, t_tokenFar4, t_tokenSize4, t_upper1, t_weight1)
def B_MD_keepSpare_10 (F : Nat) (t_tokenFar t_tokenSize : Nat → Int32) (t_tokens : Int32) (rec : Int32 → (Nat → Int32) → (Nat → Int32) → Option (Int32 × (Nat → Int32) × (Nat → Int32))) (v1_1 : Int32) (t_spareFar1 t_spareSize1 : Nat → Int32) : Option (Int32 × (Nat → Int32) × (Nat → Int32)) :=
(if t_tokens ≤ v1_1 then
some (v1_1, t_spareFar1, t_spareSize1)
else
chk (inb v1_1 513) <| chk (inb v1_1 513) <| nm (upd t_spareSize1 v1_1.toNatClampNeg (t_tokenSize v1_1.toNatClampNeg)) fun t_spareSize3 => chk (inb v1_1 513) <| chk (inb v1_1 513) <| nm (upd t_spareFar1 v1_1.toNatClampNeg (t_tokenFar v1_1.toNatClampNeg)) fun t_spareFar3 => nm (v1_1 + Int32.ofInt (1)) fun y1 => rec y1 t_spareFar3 t_spareSize3)
def L_MD_keepSpare_10 (F : Nat) (t_tokenFar t_tokenSize : Nat → Int32) (t_tokens : Int32) : Nat → Int32 → (Nat → Int32) → (Nat → Int32) → Option (Int32 × (Nat → Int32) × (Nat → Int32))
  | 0 => fun _ _ _ => none
  | f + 1 => fun v1_1 t_spareFar1 t_spareSize1 => B_MD_keepSpare_10 F t_tokenFar t_tokenSize t_tokens (L_MD_keepSpare_10 F t_tokenFar t_tokenSize t_tokens f) v1_1 t_spareFar1 t_spareSize1
def m_MD_keepSpare (F : Nat) (t_spareFar t_spareSize t_tokenFar t_tokenSize : Nat → Int32) (t_tokens : Int32) : Option (Int32 × (Nat → Int32) × (Nat → Int32)) :=
bnd3 (L_MD_keepSpare_10 F t_tokenFar t_tokenSize t_tokens F (0 : Int32) t_spareFar t_spareSize) fun v1_3 t_spareFar4 t_spareSize4 =>
some (t_tokens, t_spareFar4, t_spareSize4)
def B_MD_putBack_10 (F : Nat) (t_spare : Int32) (t_spareFar t_spareSize : Nat → Int32) (rec : Int32 → (Nat → Int32) → (Nat → Int32) → Option (Int32 × (Nat → Int32) × (Nat → Int32))) (v1_1 : Int32) (t_tokenFar1 t_tokenSize1 : Nat → Int32) : Option (Int32 × (Nat → Int32) × (Nat → Int32)) :=
(if t_spare ≤ v1_1 then
some (v1_1, t_tokenFar1, t_tokenSize1)
else
chk (inb v1_1 513) <| chk (inb v1_1 513) <| nm (upd t_tokenSize1 v1_1.toNatClampNeg (t_spareSize v1_1.toNatClampNeg)) fun t_tokenSize3 => chk (inb v1_1 513) <| chk (inb v1_1 513) <| nm (upd t_tokenFar1 v1_1.toNatClampNeg (t_spareFar v1_1.toNatClampNeg)) fun t_tokenFar3 => nm (v1_1 + Int32.ofInt (1)) fun y1 => rec y1 t_tokenFar3 t_tokenSize3)
def L_MD_putBack_10 (F : Nat) (t_spare : Int32) (t_spareFar t_spareSize : Nat → Int32) : Nat → Int32 → (Nat → Int32) → (Nat → Int32) → Option (Int32 × (Nat → Int32) × (Nat → Int32))
  | 0 => fun _ _ _ => none
  | f + 1 => fun v1_1 t_tokenFar1 t_tokenSize1 => B_MD_putBack_10 F t_spare t_spareFar t_spareSize (L_MD_putBack_10 F t_spare t_spareFar t_spareSize f) v1_1 t_tokenFar1 t_tokenSize1
def m_MD_putBack (F : Nat) (t_spare : Int32) (t_spareFar t_spareSize t_tokenFar t_tokenSize : Nat → Int32) : Option (Int32 × (Nat → Int32) × (Nat → Int32)) :=
bnd3 (L_MD_putBack_10 F t_spare t_spareFar t_spareSize F (0 : Int32) t_tokenFar t_tokenSize) fun v1_3 t_tokenFar4 t_tokenSize4 =>
some (t_spare, t_tokenFar4, t_tokenSize4)
def B_MD_makeBlock_3 (F : Nat) (t_bytes : Nat → Int32) (t_effort x2 x3 : Int32) (rec : Int32 → Int32 → (Nat → Int32) → (Nat → Int32) → Option (Int32 × Int32 × (Nat → Int32) × (Nat → Int32))) (v4_1 t_steps_1 : Int32) (t_matchFar1 t_matchSize1 : Nat → Int32) : Option (Int32 × Int32 × (Nat → Int32) × (Nat → Int32)) :=
(if x2 ≤ v4_1 then
some (v4_1, t_steps_1, t_matchFar1, t_matchSize1)
else
bnd3 (m_MD_findMatch F t_bytes t_effort t_matchFar1 t_matchSize1 t_steps_1 v4_1 x2 x3) fun t_steps_3 t_matchFar3 t_matchSize3 =>
nm (v4_1 + Int32.ofInt (1)) fun y1 => rec y1 t_steps_3 t_matchFar3 t_matchSize3)
def L_MD_makeBlock_3 (F : Nat) (t_bytes : Nat → Int32) (t_effort x2 x3 : Int32) : Nat → Int32 → Int32 → (Nat → Int32) → (Nat → Int32) → Option (Int32 × Int32 × (Nat → Int32) × (Nat → Int32))
  | 0 => fun _ _ _ _ => none
  | f + 1 => fun v4_1 t_steps_1 t_matchFar1 t_matchSize1 => B_MD_makeBlock_3 F t_bytes t_effort x2 x3 (L_MD_makeBlock_3 F t_bytes t_effort x2 x3 f) v4_1 t_steps_1 t_matchFar1 t_matchSize1
def B_MD_makeBlock_47 (F : Nat) (t_bytes : Nat → Int32) (t_effort : Int32) (t_matchFar4 t_matchSize4 : Nat → Int32) (x1 x2 : Int32) (rec : Int32 → Int32 → Int32 → Int32 → Int32 → Int32 → Int32 → Int32 → Int32 → Int32 → Int32 → (Nat → Int32) → (Nat → Int32) → (Nat → Int32) → (Nat → Int32) → (Nat → Int32) → (Nat → Int32) → (Nat → Int32) → (Nat → Int32) → (Nat → Int32) → (Nat → Int32) → (Nat → Int32) → (Nat → Int32) → (Nat → Int32) → (Nat → Int32) → (Nat → Int32) → (Nat → Int32) → Option (Int32 × Int32 × Int32 × Int32 × Int32 × Int32 × Int32 × Int32 × Int32 × Int32 × Int32 × (Nat → Int32) × (Nat → Int32) × (Nat → Int32) × (Nat → Int32) × (Nat → Int32) × (Nat → Int32) × (Nat → Int32) × (Nat → Int32) × (Nat → Int32) × (Nat → Int32) × (Nat → Int32) × (Nat → Int32) × (Nat → Int32) × (Nat → Int32) × (Nat → Int32) × (Nat → Int32))) (v4_4 v5_1 t_tokens_2 t_spare_1 t_kind_2 t_length_2 t_blockRounds_1 t_rowSize_2 t_litMany_2 t_farMany_2 t_setMany_2 : Int32) (t_choice1 t_farCount2 t_farLength2 t_litCount2 t_litLength2 t_price1 t_rowMore2 t_rowSymbol2 t_setCount2 t_setLength2 t_spareFar1 t_spareSize1 t_tokenFar2 t_tokenSize2 t_upper2 t_weight2 : Nat → Int32) : Option (Int32 × Int32 × Int32 × Int32 × Int32 × Int32 × Int32 × Int32 × Int32 × Int32 × Int32 × (Nat → Int32) × (Nat → Int32) × (Nat → Int32) × (Nat → Int32) × (Nat → Int32) × (Nat → Int32) × (Nat → Int32) × (Nat → Int32) × (Nat → Int32) × (Nat → Int32) × (Nat → Int32) × (Nat → Int32) × (Nat → Int32) × (Nat → Int32) × (Nat → Int32) × (Nat → Int32)) :=
(if t_effort ≤ v5_1 then
some (v4_4, v5_1, t_tokens_2, t_spare_1, t_kind_2, t_length_2, t_blockRounds_1, t_rowSize_2, t_litMany_2, t_farMany_2, t_setMany_2, t_choice1, t_farCount2, t_farLength2, t_litCount2, t_litLength2, t_price1, t_rowMore2, t_rowSymbol2, t_setCount2, t_setLength2, t_spareFar1, t_spareSize1, t_tokenFar2, t_tokenSize2, t_upper2, t_weight2)
else
(if v4_4 = (0 : Int32) then
some (v4_4, v5_1, t_tokens_2, t_spare_1, t_kind_2, t_length_2, t_blockRounds_1, t_rowSize_2, t_litMany_2, t_farMany_2, t_setMany_2, t_choice1, t_farCount2, t_farLength2, t_litCount2, t_litLength2, t_price1, t_rowMore2, t_rowSymbol2, t_setCount2, t_setLength2, t_spareFar1, t_spareSize1, t_tokenFar2, t_tokenSize2, t_upper2, t_weight2)
else
bnd3 (m_MD_keepSpare F t_spareFar1 t_spareSize1 t_tokenFar2 t_tokenSize2 t_tokens_2) fun t_spare_3 t_spareFar3 t_spareSize3 =>
bnd19 (m_MD_priceTokens F t_bytes t_choice1 t_farCount2 t_farLength2 t_litCount2 t_litLength2 t_matchFar4 t_matchSize4 t_price1 t_rowMore2 t_rowSymbol2 t_setCount2 t_setLength2 t_tokenFar2 t_tokenSize2 t_tokens_2 t_upper2 t_weight2 x1 x2) fun t_tokens_4 t_rowSize_4 t_litMany_4 t_farMany_4 t_setMany_4 t_choice3 t_farCount4 t_farLength4 t_litCount4 t_litLength4 t_price3 t_rowMore4 t_rowSymbol4 t_setCount4 t_setLength4 t_tokenFar4 t_tokenSize4 t_upper4 t_weight4 =>
bnd16 (m_MD_weigh F t_bytes t_effort t_farCount4 t_farLength4 t_farMany_4 t_litCount4 t_litLength4 t_litMany_4 t_rowMore4 t_rowSize_4 t_rowSymbol4 t_setCount4 t_setLength4 t_setMany_4 t_tokenFar4 t_tokenSize4 t_tokens_4 t_upper4 t_weight4 x1 x2) fun t_kind_4 t_length_4 t_rowSize_5 t_litMany_5 t_farMany_5 t_setMany_5 t_farCount5 t_farLength5 t_litCount5 t_litLength5 t_rowMore5 t_rowSymbol5 t_setCount5 t_setLength5 t_upper5 t_weight5 =>
bnd1 (if t_length_2 ≤ t_length_4 then
some (0 : Int32)
else
some (1 : Int32)) fun z1 =>
bnd6 (if z1 = (0 : Int32) then
bnd3 (m_MD_putBack F t_spare_3 t_spareFar3 t_spareSize3 t_tokenFar4 t_tokenSize4) fun t_tokens_5 t_tokenFar6 t_tokenSize6 =>
some (t_tokens_5, t_kind_2, t_length_2, t_blockRounds_1, t_tokenFar6, t_tokenSize6)
else
nm (t_blockRounds_1 + (1 : Int32)) fun y2 => some (t_tokens_4, t_kind_4, t_length_4, y2, t_tokenFar4, t_tokenSize4)) fun z2 z3 z4 z5 t_tokenFar5 t_tokenSize5 =>
nm (v5_1 + Int32.ofInt (1)) fun y3 => rec z1 y3 z2 t_spare_3 z3 z4 z5 t_rowSize_5 t_litMany_5 t_farMany_5 t_setMany_5 t_choice3 t_farCount5 t_farLength5 t_litCount5 t_litLength5 t_price3 t_rowMore5 t_rowSymbol5 t_setCount5 t_setLength5 t_spareFar3 t_spareSize3 t_tokenFar5 t_tokenSize5 t_upper5 t_weight5))
def L_MD_makeBlock_47 (F : Nat) (t_bytes : Nat → Int32) (t_effort : Int32) (t_matchFar4 t_matchSize4 : Nat → Int32) (x1 x2 : Int32) : Nat → Int32 → Int32 → Int32 → Int32 → Int32 → Int32 → Int32 → Int32 → Int32 → Int32 → Int32 → (Nat → Int32) → (Nat → Int32) → (Nat → Int32) → (Nat → Int32) → (Nat → Int32) → (Nat → Int32) → (Nat → Int32) → (Nat → Int32) → (Nat → Int32) → (Nat → Int32) → (Nat → Int32) → (Nat → Int32) → (Nat → Int32) → (Nat → Int32) → (Nat → Int32) → (Nat → Int32) → Option (Int32 × Int32 × Int32 × Int32 × Int32 × Int32 × Int32 × Int32 × Int32 × Int32 × Int32 × (Nat → Int32) × (Nat → Int32) × (Nat → Int32) × (Nat → Int32) × (Nat → Int32) × (Nat → Int32) × (Nat → Int32) × (Nat → Int32) × (Nat → Int32) × (Nat → Int32) × (Nat → Int32) × (Nat → Int32) × (Nat → Int32) × (Nat → Int32) × (Nat → Int32) × (Nat → Int32))
  | 0 => fun _ _ _ _ _ _ _ _ _ _ _ _ _ _ _ _ _ _ _ _ _ _ _ _ _ _ _ => none
  | f + 1 => fun v4_4 v5_1 t_tokens_2 t_spare_1 t_kind_2 t_length_2 t_blockRounds_1 t_rowSize_2 t_litMany_2 t_farMany_2 t_setMany_2 t_choice1 t_farCount2 t_farLength2 t_litCount2 t_litLength2 t_price1 t_rowMore2 t_rowSymbol2 t_setCount2 t_setLength2 t_spareFar1 t_spareSize1 t_tokenFar2 t_tokenSize2 t_upper2 t_weight2 => B_MD_makeBlock_47 F t_bytes t_effort t_matchFar4 t_matchSize4 x1 x2 (L_MD_makeBlock_47 F t_bytes t_effort t_matchFar4 t_matchSize4 x1 x2 f) v4_4 v5_1 t_tokens_2 t_spare_1 t_kind_2 t_length_2 t_blockRounds_1 t_rowSize_2 t_litMany_2 t_farMany_2 t_setMany_2 t_choice1 t_farCount2 t_farLength2 t_litCount2 t_litLength2 t_price1 t_rowMore2 t_rowSymbol2 t_setCount2 t_setLength2 t_spareFar1 t_spareSize1 t_tokenFar2 t_tokenSize2 t_upper2 t_weight2
def m_MD_makeBlock (F : Nat) (t_bytes t_choice : Nat → Int32) (t_effort : Int32) (t_farCount t_farLength : Nat → Int32) (t_farMany : Int32) (t_litCount t_litLength : Nat → Int32) (t_litMany : Int32) (t_matchFar t_matchSize t_price t_rowMore : Nat → Int32) (t_rowSize : Int32) (t_rowSymbol t_setCount t_setLength : Nat → Int32) (t_setMany t_spare : Int32) (t_spareFar t_spareSize : Nat → Int32) (t_steps : Int32) (t_tokenFar t_tokenSize t_upper t_weight : Nat → Int32) (x1 x2 x3 : Int32) : Option (Int32 × Int32 × Int32 × Int32 × Int32 × Int32 × Int32 × Int32 × Int32 × Int32 × (Nat → Int32) × (Nat → Int32) × (Nat → Int32) × (Nat → Int32) × (Nat → Int32) × (Nat → Int32) × (Nat → Int32) × (Nat → Int32) × (Nat → Int32) × (Nat → Int32) × (Nat → Int32) × (Nat → Int32) × (Nat → Int32) × (Nat → Int32) × (Nat → Int32) × (Nat → Int32) × (Nat → Int32) × (Nat → Int32)) :=
bnd4 (L_MD_makeBlock_3 F t_bytes t_effort x2 x3 F x1 t_steps t_matchFar t_matchSize) fun v4_3 t_steps_4 t_matchFar4 t_matchSize4 =>
bnd3 (m_MD_firstTokens F t_effort t_matchFar4 t_matchSize4 t_tokenFar t_tokenSize x1 x2) fun t_tokens_1 t_tokenFar1 t_tokenSize1 =>
bnd16 (m_MD_weigh F t_bytes t_effort t_farCount t_farLength t_farMany t_litCount t_litLength t_litMany t_rowMore t_rowSize t_rowSymbol t_setCount t_setLength t_setMany t_tokenFar1 t_tokenSize1 t_tokens_1 t_upper t_weight x1 x2) fun t_kind_1 t_length_1 t_rowSize_1 t_litMany_1 t_farMany_1 t_setMany_1 t_farCount1 t_farLength1 t_litCount1 t_litLength1 t_rowMore1 t_rowSymbol1 t_setCount1 t_setLength1 t_upper1 t_weight1 =>
bnd27 (L_MD_makeBlock_47 F t_bytes t_effort t_matchFar4 t_matchSize4 x1 x2 F (1 : Int32) (6 : Int32) t_tokens_1 t_spare t_kind_1 t_length_1 (0 : Int32) t_rowSize_1 t_litMany_1 t_farMany_1 t_setMany_1 t_choice t_farCount1 t_farLength1 t_litCount1 t_litLength1 t_price t_rowMore1 t_rowSymbol1 t_setCount1 t_setLength1 t_spareFar t_spareSize t_tokenFar1 t_tokenSize1 t_upper1 t_weight1) fun v4_6 v5_3 t_tokens_6 t_spare_4 t_kind_5 t_length_5 t_blockRounds_3 t_rowSize_6 t_litMany_6 t_farMany_6 t_setMany_6 t_choice4 t_farCount6 t_farLength6 t_litCount6 t_litLength6 t_price4 t_rowMore6 t_rowSymbol6 t_setCount6 t_setLength6 t_spareFar4 t_spareSize4 t_tokenFar7 t_tokenSize7 t_upper6 t_weight6 =>
some (t_steps_4, t_tokens_6, t_spare_4, t_kind_5, t_length_5, t_blockRounds_3, t_rowSize_6, t_litMany_6, t_farMany_6, t_setMany_6, t_choice4, t_farCount6, t_farLength6, t_litCount6, t_litLength6, t_matchFar4, t_matchSize4, t_price4, t_rowMore6, t_rowSymbol6, t_setCount6, t_setLength6, t_spareFar4, t_spareSize4, t_tokenFar7, t_tokenSize7, t_upper6, t_weight6)
def m_MD_putBit (F : Nat) (t_bits : Int32) (t_coded : Nat → Int32) (x1 : Int32) : Option (Int32 × (Nat → Int32)) :=
bnd1 (if (t_bits - t_bits / (8 : Int32) * (8 : Int32)) = (0 : Int32) then
chk (inb (t_bits / (8 : Int32)) 1300) <| nm (upd t_coded (t_bits / (8 : Int32)).toNatClampNeg (0 : Int32)) fun t_coded2 => some t_coded2
else
some t_coded) fun t_coded1 =>
chk (inb (t_bits / (8 : Int32)) 1300) <| chk (inb (t_bits / (8 : Int32)) 1300) <| nm (upd t_coded1 (t_bits / (8 : Int32)).toNatClampNeg ((t_coded1 (t_bits / (8 : Int32)).toNatClampNeg) ||| (x1 <<< ((t_bits - t_bits / (8 : Int32) * (8 : Int32)) &&& 31)))) fun t_coded3 => nm (t_bits + (1 : Int32)) fun y1 => some (y1, t_coded3)
def B_MD_putNumber_2 (F : Nat) (x1 x2 : Int32) (rec : Int32 → Int32 → (Nat → Int32) → Option (Int32 × Int32 × (Nat → Int32))) (v3_1 t_bits_1 : Int32) (t_coded1 : Nat → Int32) : Option (Int32 × Int32 × (Nat → Int32)) :=
(if x2 ≤ v3_1 then
some (v3_1, t_bits_1, t_coded1)
else
bnd2 (m_MD_putBit F t_bits_1 t_coded1 ((x1 >>> (v3_1 &&& 31)) &&& (1 : Int32))) fun t_bits_3 t_coded3 =>
nm (v3_1 + Int32.ofInt (1)) fun y1 => rec y1 t_bits_3 t_coded3)
def L_MD_putNumber_2 (F : Nat) (x1 x2 : Int32) : Nat → Int32 → Int32 → (Nat → Int32) → Option (Int32 × Int32 × (Nat → Int32))
  | 0 => fun _ _ _ => none
  | f + 1 => fun v3_1 t_bits_1 t_coded1 => B_MD_putNumber_2 F x1 x2 (L_MD_putNumber_2 F x1 x2 f) v3_1 t_bits_1 t_coded1
def m_MD_putNumber (F : Nat) (t_bits : Int32) (t_coded : Nat → Int32) (x1 x2 : Int32) : Option (Int32 × (Nat → Int32)) :=
bnd3 (L_MD_putNumber_2 F x1 x2 F (0 : Int32) t_bits t_coded) fun v3_3 t_bits_4 t_coded4 =>
some (t_bits_4, t_coded4)
def B_MD_putCode_4 (F : Nat) (x1 : Int32) (rec : Int32 → Int32 → (Nat → Int32) → Option (Int32 × Int32 × (Nat → Int32))) (v3_1 t_bits_1 : Int32) (t_coded1 : Nat → Int32) : Option (Int32 × Int32 × (Nat → Int32)) :=
(if v3_1 < (0 : Int32) then
some (v3_1, t_bits_1, t_coded1)
else
bnd2 (m_MD_putBit F t_bits_1 t_coded1 ((x1 >>> (v3_1 &&& 31)) &&& (1 : Int32))) fun t_bits_3 t_coded3 =>
nm (v3_1 + Int32.ofInt (-1)) fun y2 => rec y2 t_bits_3 t_coded3)
def L_MD_putCode_4 (F : Nat) (x1 : Int32) : Nat → Int32 → Int32 → (Nat → Int32) → Option (Int32 × Int32 × (Nat → Int32))
  | 0 => fun _ _ _ => none
  | f + 1 => fun v3_1 t_bits_1 t_coded1 => B_MD_putCode_4 F x1 (L_MD_putCode_4 F x1 f) v3_1 t_bits_1 t_coded1
def m_MD_putCode (F : Nat) (t_bits : Int32) (t_coded : Nat → Int32) (x1 x2 : Int32) : Option (Int32 × (Nat → Int32)) :=
nm (x2 - (1 : Int32)) fun y1 => bnd3 (L_MD_putCode_4 F x1 F y1 t_bits t_coded) fun v3_3 t_bits_4 t_coded4 =>
some (t_bits_4, t_coded4)
def B_MD_putStored_0 (F : Nat)  (rec : Int32 → (Nat → Int32) → Option (Int32 × (Nat → Int32))) (t_bits_1 : Int32) (t_coded1 : Nat → Int32) : Option (Int32 × (Nat → Int32)) :=
(if (t_bits_1 - t_bits_1 / (8 : Int32) * (8 : Int32)) = (0 : Int32) then
some (t_bits_1, t_coded1)
else
bnd2 (m_MD_putBit F t_bits_1 t_coded1 (0 : Int32)) fun t_bits_3 t_coded3 =>
rec t_bits_3 t_coded3)
def L_MD_putStored_0 (F : Nat)  : Nat → Int32 → (Nat → Int32) → Option (Int32 × (Nat → Int32))
  | 0 => fun _ _ => none
  | f + 1 => fun t_bits_1 t_coded1 => B_MD_putStored_0 F  (L_MD_putStored_0 F  f) t_bits_1 t_coded1
def B_MD_putStored_40 (F : Nat) (t_bytes : Nat → Int32) (x2 : Int32) (rec : Int32 → Int32 → (Nat → Int32) → Option (Int32 × Int32 × (Nat → Int32))) (v3_1 t_bits_7 : Int32) (t_coded7 : Nat → Int32) : Option (Int32 × Int32 × (Nat → Int32)) :=
(if x2 ≤ v3_1 then
some (v3_1, t_bits_7, t_coded7)
else
chk (inb v3_1 512) <| bnd2 (m_MD_putNumber F t_bits_7 t_coded7 (t_bytes v3_1.toNatClampNeg) (8 : Int32)) fun t_bits_9 t_coded9 =>
nm (v3_1 + Int32.ofInt (1)) fun y1 => rec y1 t_bits_9 t_coded9)
def L_MD_putStored_40 (F : Nat) (t_bytes : Nat → Int32) (x2 : Int32) : Nat → Int32 → Int32 → (Nat → Int32) → Option (Int32 × Int32 × (Nat → Int32))
  | 0 => fun _ _ _ => none
  | f + 1 => fun v3_1 t_bits_7 t_coded7 => B_MD_putStored_40 F t_bytes x2 (L_MD_putStored_40 F t_bytes x2 f) v3_1 t_bits_7 t_coded7
def m_MD_putStored (F : Nat) (t_bits : Int32) (t_bytes t_coded : Nat → Int32) (x1 x2 : Int32) : Option (Int32 × (Nat → Int32)) :=
bnd2 (L_MD_putStored_0 F  F t_bits t_coded) fun t_bits_4 t_coded4 =>
bnd2 (m_MD_putNumber F t_bits_4 t_coded4 (x2 - x1) (16 : Int32)) fun t_bits_5 t_coded5 =>
bnd2 (m_MD_putNumber F t_bits_5 t_coded5 ((x2 - x1) ^^^ (-1 : Int32)) (16 : Int32)) fun t_bits_6 t_coded6 =>
bnd3 (L_MD_putStored_40 F t_bytes x2 F x1 t_bits_6 t_coded6) fun v3_3 t_bits_10 t_coded10 =>
some (t_bits_10, t_coded10)
def B_MD_putRow_37 (F : Nat) (t_setLength : Nat → Int32) (t_setMany : Int32) (rec : Int32 → Int32 → (Nat → Int32) → Option (Int32 × Int32 × (Nat → Int32))) (v1_1 t_bits_4 : Int32) (t_coded4 : Nat → Int32) : Option (Int32 × Int32 × (Nat → Int32)) :=
(if t_setMany ≤ v1_1 then
some (v1_1, t_bits_4, t_coded4)
else
bnd1 (m_MD_orderOf F v1_1) fun r1 =>
chk (inb r1 19) <| bnd2 (m_MD_putNumber F t_bits_4 t_coded4 (t_setLength r1.toNatClampNeg) (3 : Int32)) fun t_bits_6 t_coded6 =>
nm (v1_1 + Int32.ofInt (1)) fun y1 => rec y1 t_bits_6 t_coded6)
def L_MD_putRow_37 (F : Nat) (t_setLength : Nat → Int32) (t_setMany : Int32) : Nat → Int32 → Int32 → (Nat → Int32) → Option (Int32 × Int32 × (Nat → Int32))
  | 0 => fun _ _ _ => none
  | f + 1 => fun v1_1 t_bits_4 t_coded4 => B_MD_putRow_37 F t_setLength t_setMany (L_MD_putRow_37 F t_setLength t_setMany f) v1_1 t_bits_4 t_coded4
def B_MD_putRow_80 (F : Nat) (t_rowMore : Nat → Int32) (t_rowSize : Int32) (t_rowSymbol t_setCode1 t_setLength : Nat → Int32) (rec : Int32 → Int32 → (Nat → Int32) → Option (Int32 × Int32 × (Nat → Int32))) (v1_4 t_bits_8 : Int32) (t_coded8 : Nat → Int32) : Option (Int32 × Int32 × (Nat → Int32)) :=
(if t_rowSize ≤ v1_4 then
some (v1_4, t_bits_8, t_coded8)
else
chk (inb v1_4 330) <| chk (inb (t_rowSymbol v1_4.toNatClampNeg) 19) <| chk (inb v1_4 330) <| chk (inb (t_rowSymbol v1_4.toNatClampNeg) 19) <| bnd2 (m_MD_putCode F t_bits_8 t_coded8 (t_setCode1 (t_rowSymbol v1_4.toNatClampNeg).toNatClampNeg) (t_setLength (t_rowSymbol v1_4.toNatClampNeg).toNatClampNeg)) fun t_bits_10 t_coded10 =>
chk (inb v1_4 330) <| chk (inb v1_4 330) <| bnd1 (m_MD_extraOfRow F (t_rowSymbol v1_4.toNatClampNeg)) fun r2 =>
bnd2 (m_MD_putNumber F t_bits_10 t_coded10 (t_rowMore v1_4.toNatClampNeg) r2) fun t_bits_11 t_coded11 =>
nm (v1_4 + Int32.ofInt (1)) fun y2 => rec y2 t_bits_11 t_coded11)
def L_MD_putRow_80 (F : Nat) (t_rowMore : Nat → Int32) (t_rowSize : Int32) (t_rowSymbol t_setCode1 t_setLength : Nat → Int32) : Nat → Int32 → Int32 → (Nat → Int32) → Option (Int32 × Int32 × (Nat → Int32))
  | 0 => fun _ _ _ => none
  | f + 1 => fun v1_4 t_bits_8 t_coded8 => B_MD_putRow_80 F t_rowMore t_rowSize t_rowSymbol t_setCode1 t_setLength (L_MD_putRow_80 F t_rowMore t_rowSize t_rowSymbol t_setCode1 t_setLength f) v1_4 t_bits_8 t_coded8
def m_MD_putRow (F : Nat) (t_bits : Int32) (t_coded : Nat → Int32) (t_farMany t_litMany : Int32) (t_rowMore : Nat → Int32) (t_rowSize : Int32) (t_rowSymbol t_setCode t_setLength : Nat → Int32) (t_setMany : Int32) : Option (Int32 × (Nat → Int32) × (Nat → Int32)) :=
bnd2 (m_MD_putNumber F t_bits t_coded (t_litMany - (257 : Int32)) (5 : Int32)) fun t_bits_1 t_coded1 =>
bnd2 (m_MD_putNumber F t_bits_1 t_coded1 (t_farMany - (1 : Int32)) (5 : Int32)) fun t_bits_2 t_coded2 =>
bnd2 (m_MD_putNumber F t_bits_2 t_coded2 (t_setMany - (4 : Int32)) (4 : Int32)) fun t_bits_3 t_coded3 =>
bnd3 (L_MD_putRow_37 F t_setLength t_setMany F (0 : Int32) t_bits_3 t_coded3) fun v1_3 t_bits_7 t_coded7 =>
bnd1 (m_MD_number F 19 19 t_setLength t_setCode (19 : Int32)) fun t_setCode1 =>
bnd3 (L_MD_putRow_80 F t_rowMore t_rowSize t_rowSymbol t_setCode1 t_setLength F (0 : Int32) t_bits_7 t_coded7) fun v1_6 t_bits_12 t_coded12 =>
some (t_bits_12, t_coded12, t_setCode1)
def B_MD_putTokens_31 (F : Nat) (t_bytes t_farCode1 t_farLength t_litCode1 t_litLength t_tokenFar t_tokenSize : Nat → Int32) (t_tokens : Int32) (rec : Int32 → Int32 → Int32 → (Nat → Int32) → Option (Int32 × Int32 × Int32 × (Nat → Int32))) (v2_1 v3_1 t_bits_1 : Int32) (t_coded1 : Nat → Int32) : Option (Int32 × Int32 × Int32 × (Nat → Int32)) :=
(if t_tokens ≤ v3_1 then
some (v2_1, v3_1, t_bits_1, t_coded1)
else
chk (inb v3_1 513) <| nm (t_tokenSize v3_1.toNatClampNeg) fun y1 => bnd1 (if y1 = (1 : Int32) then
chk (inb v2_1 512) <| some (t_bytes v2_1.toNatClampNeg)
else
bnd1 (m_MD_symbolOfSize F y1) fun r1 =>
some r1) fun z1 =>
chk (inb z1 288) <| chk (inb z1 288) <| bnd2 (m_MD_putCode F t_bits_1 t_coded1 (t_litCode1 z1.toNatClampNeg) (t_litLength z1.toNatClampNeg)) fun t_bits_3 t_coded3 =>
bnd2 (if y1 ≤ (1 : Int32) then
some (t_bits_3, t_coded3)
else
bnd1 (m_MD_extraOfSize F y1) fun r2 =>
bnd1 (if y1 = (258 : Int32) then
some (0 : Int32)
else
some ((y1 - (3 : Int32)) &&& (((1 : Int32) <<< (r2 &&& 31)) - (1 : Int32)))) fun z3 =>
bnd2 (m_MD_putNumber F t_bits_3 t_coded3 z3 r2) fun t_bits_4 t_coded5 =>
chk (inb v3_1 513) <| bnd1 (m_MD_symbolOfFar F (t_tokenFar v3_1.toNatClampNeg)) fun r3 =>
chk (inb r3 32) <| chk (inb r3 32) <| bnd2 (m_MD_putCode F t_bits_4 t_coded5 (t_farCode1 r3.toNatClampNeg) (t_farLength r3.toNatClampNeg)) fun t_bits_5 t_coded6 =>
chk (inb v3_1 513) <| chk (inb v3_1 513) <| bnd1 (m_MD_extraOfFar F (t_tokenFar v3_1.toNatClampNeg)) fun r4 =>
chk (inb v3_1 513) <| bnd1 (m_MD_extraOfFar F (t_tokenFar v3_1.toNatClampNeg)) fun r5 =>
bnd2 (m_MD_putNumber F t_bits_5 t_coded6 (((t_tokenFar v3_1.toNatClampNeg) - (1 : Int32)) &&& (((1 : Int32) <<< (r4 &&& 31)) - (1 : Int32))) r5) fun t_bits_6 t_coded7 =>
some (t_bits_6, t_coded7)) fun z2 t_coded4 =>
nm (v2_1 + y1) fun y2 => nm (v3_1 + Int32.ofInt (1)) fun y3 => rec y2 y3 z2 t_coded4)
def L_MD_putTokens_31 (F : Nat) (t_bytes t_farCode1 t_farLength t_litCode1 t_litLength t_tokenFar t_tokenSize : Nat → Int32) (t_tokens : Int32) : Nat → Int32 → Int32 → Int32 → (Nat → Int32) → Option (Int32 × Int32 × Int32 × (Nat → Int32))
  | 0 => fun _ _ _ _ => none
  | f + 1 => fun v2_1 v3_1 t_bits_1 t_coded1 => B_MD_putTokens_31 F t_bytes t_farCode1 t_farLength t_litCode1 t_litLength t_tokenFar t_tokenSize t_tokens (L_MD_putTokens_31 F t_bytes t_farCode1 t_farLength t_litCode1 t_litLength t_tokenFar t_tokenSize t_tokens f) v2_1 v3_1 t_bits_1 t_coded1
def m_MD_putTokens (F : Nat) (t_bits : Int32) (t_bytes t_coded t_farCode t_farLength t_litCode t_litLength t_tokenFar t_tokenSize : Nat → Int32) (t_tokens x1 : Int32) : Option (Int32 × (Nat → Int32) × (Nat → Int32) × (Nat → Int32)) :=
bnd1 (m_MD_number F 288 288 t_litLength t_litCode (288 : Int32)) fun t_litCode1 =>
bnd1 (m_MD_number F 32 32 t_farLength t_farCode (32 : Int32)) fun t_farCode1 =>
bnd4 (L_MD_putTokens_31 F t_bytes t_farCode1 t_farLength t_litCode1 t_litLength t_tokenFar t_tokenSize t_tokens F x1 (0 : Int32) t_bits t_coded) fun v2_3 v3_3 t_bits_7 t_coded8 =>
chk (inb (256 : Int32) 288) <| chk (inb (256 : Int32) 288) <| bnd2 (m_MD_putCode F t_bits_7 t_coded8 (t_litCode1 (256 : Int32).toNatClampNeg) (t_litLength (256 : Int32).toNatClampNeg)) fun t_bits_8 t_coded9 =>
some (t_bits_8, t_coded9, t_farCode1, t_litCode1)
def B_MD_putBlock_151 (F : Nat) (t_blocks : Int32) (t_tokenSize1 : Nat → Int32) (t_tokens_1 : Int32) (rec : Int32 → (Nat → Int32) → Option (Int32 × (Nat → Int32))) (v3_1 : Int32) (t_blockMatches2 : Nat → Int32) : Option (Int32 × (Nat → Int32)) :=
(if t_tokens_1 ≤ v3_1 then
some (v3_1, t_blockMatches2)
else
chk (inb t_blocks 5) <| chk (inb v3_1 513) <| bnd1 (if (t_tokenSize1 v3_1.toNatClampNeg) ≤ (1 : Int32) then
some (0 : Int32)
else
some (1 : Int32)) fun z12 =>
chk (inb t_blocks 5) <| nm (upd t_blockMatches2 t_blocks.toNatClampNeg ((t_blockMatches2 t_blocks.toNatClampNeg) + z12)) fun t_blockMatches4 => nm (v3_1 + Int32.ofInt (1)) fun y1 => rec y1 t_blockMatches4)
def L_MD_putBlock_151 (F : Nat) (t_blocks : Int32) (t_tokenSize1 : Nat → Int32) (t_tokens_1 : Int32) : Nat → Int32 → (Nat → Int32) → Option (Int32 × (Nat → Int32))
  | 0 => fun _ _ => none
  | f + 1 => fun v3_1 t_blockMatches2 => B_MD_putBlock_151 F t_blocks t_tokenSize1 t_tokens_1 (L_MD_putBlock_151 F t_blocks t_tokenSize1 t_tokens_1 f) v3_1 t_blockMatches2
def m_MD_putBlock (F : Nat) (t_bits : Int32) (t_blockBits t_blockFrom t_blockKind t_blockMatches t_blockSize t_blockTokens : Nat → Int32) (t_blocks : Int32) (t_bytes t_choice t_coded : Nat → Int32) (t_effort : Int32) (t_farCode t_farCount t_farLength : Nat → Int32) (t_farMany : Int32) (t_litCode t_litCount t_litLength : Nat → Int32) (t_litMany : Int32) (t_matchFar t_matchSize t_price : Nat → Int32) (t_rounds : Int32) (t_rowMore : Nat → Int32) (t_rowSize : Int32) (t_rowSymbol t_setCode t_setCount t_setLength : Nat → Int32) (t_setMany t_size t_spare : Int32) (t_spareFar t_spareSize : Nat → Int32) (t_steps : Int32) (t_tokenFar t_tokenSize t_upper t_weight : Nat → Int32) (x1 x2 : Int32) : Option (Int32 × Int32 × Int32 × Int32 × Int32 × Int32 × Int32 × Int32 × Int32 × Int32 × Int32 × Int32 × Int32 × (Nat → Int32) × (Nat → Int32) × (Nat → Int32) × (Nat → Int32) × (Nat → Int32) × (Nat → Int32) × (Nat → Int32) × (Nat → Int32) × (Nat → Int32) × (Nat → Int32) × (Nat → Int32) × (Nat → Int32) × (Nat → Int32) × (Nat → Int32) × (Nat → Int32) × (Nat → Int32) × (Nat → Int32) × (Nat → Int32) × (Nat → Int32) × (Nat → Int32) × (Nat → Int32) × (Nat → Int32) × (Nat → Int32) × (Nat → Int32) × (Nat → Int32) × (Nat → Int32) × (Nat → Int32) × (Nat → Int32)) :=
bnd28 (m_MD_makeBlock F t_bytes t_choice t_effort t_farCount t_farLength t_farMany t_litCount t_litLength t_litMany t_matchFar t_matchSize t_price t_rowMore t_rowSize t_rowSymbol t_setCount t_setLength t_setMany t_spare t_spareFar t_spareSize t_steps t_tokenFar t_tokenSize t_upper t_weight x1 x2 (0 : Int32)) fun t_steps_1 t_tokens_1 t_spare_1 t_kind_1 t_length_1 t_blockRounds_1 t_rowSize_1 t_litMany_1 t_farMany_1 t_setMany_1 t_choice1 t_farCount1 t_farLength1 t_litCount1 t_litLength1 t_matchFar1 t_matchSize1 t_price1 t_rowMore1 t_rowSymbol1 t_setCount1 t_setLength1 t_spareFar1 t_spareSize1 t_tokenFar1 t_tokenSize1 t_upper1 t_weight1 =>
bnd1 (if x2 = t_size then
some (1 : Int32)
else
some (0 : Int32)) fun z1 =>
bnd2 (m_MD_putBit F t_bits t_coded z1) fun t_bits_1 t_coded1 =>
bnd2 (m_MD_putNumber F t_bits_1 t_coded1 t_kind_1 (2 : Int32)) fun t_bits_2 t_coded2 =>
bnd19 (if t_kind_1 = (0 : Int32) then
bnd2 (m_MD_putStored F t_bits_2 t_bytes t_coded2 x1 x2) fun t_bits_3 t_coded4 =>
some (t_bits_3, t_rowSize_1, t_litMany_1, t_farMany_1, t_setMany_1, t_coded4, t_farCode, t_farCount1, t_farLength1, t_litCode, t_litCount1, t_litLength1, t_rowMore1, t_rowSymbol1, t_setCode, t_setCount1, t_setLength1, t_upper1, t_weight1)
else
bnd17 (if t_kind_1 = (1 : Int32) then
bnd2 (m_MD_fixedCodes F t_farLength1 t_litLength1) fun t_farLength4 t_litLength4 =>
some (t_bits_2, t_rowSize_1, t_litMany_1, t_farMany_1, t_setMany_1, t_coded2, t_farCount1, t_farLength4, t_litCount1, t_litLength4, t_rowMore1, t_rowSymbol1, t_setCode, t_setCount1, t_setLength1, t_upper1, t_weight1)
else
bnd14 (m_MD_ownCodes F t_bytes t_farCount1 t_farLength1 t_litCount1 t_litLength1 t_rowMore1 t_rowSymbol1 t_setCount1 t_setLength1 t_tokenFar1 t_tokenSize1 t_tokens_1 t_upper1 t_weight1 x1) fun t_rowSize_2 t_litMany_2 t_farMany_2 t_setMany_2 t_farCount4 t_farLength5 t_litCount4 t_litLength5 t_rowMore4 t_rowSymbol4 t_setCount4 t_setLength4 t_upper4 t_weight4 =>
bnd3 (m_MD_putRow F t_bits_2 t_coded2 t_farMany_2 t_litMany_2 t_rowMore4 t_rowSize_2 t_rowSymbol4 t_setCode t_setLength4 t_setMany_2) fun t_bits_4 t_coded6 t_setCode3 =>
some (t_bits_4, t_rowSize_2, t_litMany_2, t_farMany_2, t_setMany_2, t_coded6, t_farCount4, t_farLength5, t_litCount4, t_litLength5, t_rowMore4, t_rowSymbol4, t_setCode3, t_setCount4, t_setLength4, t_upper4, t_weight4)) fun z7 z8 z9 z10 z11 t_coded5 t_farCount3 t_farLength3 t_litCount3 t_litLength3 t_rowMore3 t_rowSymbol3 t_setCode2 t_setCount3 t_setLength3 t_upper3 t_weight3 =>
bnd4 (m_MD_putTokens F z7 t_bytes t_coded5 t_farCode t_farLength3 t_litCode t_litLength3 t_tokenFar1 t_tokenSize1 t_tokens_1 x1) fun t_bits_5 t_coded7 t_farCode2 t_litCode2 =>
some (t_bits_5, z8, z9, z10, z11, t_coded7, t_farCode2, t_farCount3, t_farLength3, t_litCode2, t_litCount3, t_litLength3, t_rowMore3, t_rowSymbol3, t_setCode2, t_setCount3, t_setLength3, t_upper3, t_weight3)) fun z2 z3 z4 z5 z6 t_coded3 t_farCode1 t_farCount2 t_farLength2 t_litCode1 t_litCount2 t_litLength2 t_rowMore2 t_rowSymbol2 t_setCode1 t_setCount2 t_setLength2 t_upper2 t_weight2 =>
chk (inb t_blocks 5) <| nm (upd t_blockFrom t_blocks.toNatClampNeg x1) fun t_blockFrom1 => chk (inb t_blocks 5) <| nm (upd t_blockSize t_blocks.toNatClampNeg (x2 - x1)) fun t_blockSize1 => chk (inb t_blocks 5) <| nm (upd t_blockKind t_blocks.toNatClampNeg t_kind_1) fun t_blockKind1 => chk (inb t_blocks 5) <| nm (upd t_blockBits t_blocks.toNatClampNeg t_length_1) fun t_blockBits1 => chk (inb t_blocks 5) <| nm (upd t_blockTokens t_blocks.toNatClampNeg t_tokens_1) fun t_blockTokens1 => chk (inb t_blocks 5) <| nm (upd t_blockMatches t_blocks.toNatClampNeg (0 : Int32)) fun t_blockMatches1 => bnd2 (L_MD_putBlock_151 F t_blocks t_tokenSize1 t_tokens_1 F (0 : Int32) t_blockMatches1) fun v3_3 t_blockMatches5 =>
nm (t_rounds + t_blockRounds_1) fun y2 => nm (t_blocks + (1 : Int32)) fun y3 => some (z2, t_steps_1, y2, y3, t_tokens_1, t_spare_1, t_kind_1, t_length_1, t_blockRounds_1, z3, z4, z5, z6, t_blockBits1, t_blockFrom1, t_blockKind1, t_blockMatches5, t_blockSize1, t_blockTokens1, t_choice1, t_coded3, t_farCode1, t_farCount2, t_farLength2, t_litCode1, t_litCount2, t_litLength2, t_matchFar1, t_matchSize1, t_price1, t_rowMore2, t_rowSymbol2, t_setCode1, t_setCount2, t_setLength2, t_spareFar1, t_spareSize1, t_tokenFar1, t_tokenSize1, t_upper2, t_weight2)
def m_MD_cut (F : Nat) (t_size x1 : Int32) : Option (Int32) :=
(if t_size ≤ ((128 : Int32) * x1) then
some t_size
else
some ((128 : Int32) * x1))
def B_MD_deflate_62 (F : Nat) (t_bytes : Nat → Int32) (t_effort t_size v2_1 z1 : Int32) (rec : Int32 → Int32 → Int32 → Int32 → Int32 → Int32 → Int32 → Int32 → Int32 → Int32 → Int32 → (Nat → Int32) → (Nat → Int32) → (Nat → Int32) → (Nat → Int32) → (Nat → Int32) → (Nat → Int32) → (Nat → Int32) → (Nat → Int32) → (Nat → Int32) → (Nat → Int32) → (Nat → Int32) → (Nat → Int32) → (Nat → Int32) → (Nat → Int32) → (Nat → Int32) → (Nat → Int32) → (Nat → Int32) → (Nat → Int32) → (Nat → Int32) → Option (Int32 × Int32 × Int32 × Int32 × Int32 × Int32 × Int32 × Int32 × Int32 × Int32 × Int32 × (Nat → Int32) × (Nat → Int32) × (Nat → Int32) × (Nat → Int32) × (Nat → Int32) × (Nat → Int32) × (Nat → Int32) × (Nat → Int32) × (Nat → Int32) × (Nat → Int32) × (Nat → Int32) × (Nat → Int32) × (Nat → Int32) × (Nat → Int32) × (Nat → Int32) × (Nat → Int32) × (Nat → Int32) × (Nat → Int32) × (Nat → Int32))) (v3_1 t_steps_3 t_tokens_3 t_spare_3 t_kind_3 t_length_3 t_blockRounds_3 t_rowSize_3 t_litMany_3 t_farMany_3 t_setMany_3 : Int32) (t_choice3 t_farCount3 t_farLength3 t_litCount3 t_litLength3 t_matchFar3 t_matchSize3 t_price3 t_rowMore3 t_rowSymbol3 t_setCount3 t_setLength3 t_spareFar3 t_spareSize3 t_tokenFar3 t_tokenSize3 t_tried3 t_upper3 t_weight3 : Nat → Int32) : Option (Int32 × Int32 × Int32 × Int32 × Int32 × Int32 × Int32 × Int32 × Int32 × Int32 × Int32 × (Nat → Int32) × (Nat → Int32) × (Nat → Int32) × (Nat → Int32) × (Nat → Int32) × (Nat → Int32) × (Nat → Int32) × (Nat → Int32) × (Nat → Int32) × (Nat → Int32) × (Nat → Int32) × (Nat → Int32) × (Nat → Int32) × (Nat → Int32) × (Nat → Int32) × (Nat → Int32) × (Nat → Int32) × (Nat → Int32) × (Nat → Int32)) :=
(if z1 < v3_1 then
some (v3_1, t_steps_3, t_tokens_3, t_spare_3, t_kind_3, t_length_3, t_blockRounds_3, t_rowSize_3, t_litMany_3, t_farMany_3, t_setMany_3, t_choice3, t_farCount3, t_farLength3, t_litCount3, t_litLength3, t_matchFar3, t_matchSize3, t_price3, t_rowMore3, t_rowSymbol3, t_setCount3, t_setLength3, t_spareFar3, t_spareSize3, t_tokenFar3, t_tokenSize3, t_tried3, t_upper3, t_weight3)
else
bnd1 (m_MD_cut F t_size v2_1) fun r1 =>
bnd1 (m_MD_cut F t_size v3_1) fun r2 =>
bnd28 (m_MD_makeBlock F t_bytes t_choice3 t_effort t_farCount3 t_farLength3 t_farMany_3 t_litCount3 t_litLength3 t_litMany_3 t_matchFar3 t_matchSize3 t_price3 t_rowMore3 t_rowSize_3 t_rowSymbol3 t_setCount3 t_setLength3 t_setMany_3 t_spare_3 t_spareFar3 t_spareSize3 t_steps_3 t_tokenFar3 t_tokenSize3 t_upper3 t_weight3 r1 r2 (1 : Int32)) fun t_steps_5 t_tokens_5 t_spare_5 t_kind_5 t_length_5 t_blockRounds_5 t_rowSize_5 t_litMany_5 t_farMany_5 t_setMany_5 t_choice5 t_farCount5 t_farLength5 t_litCount5 t_litLength5 t_matchFar5 t_matchSize5 t_price5 t_rowMore5 t_rowSymbol5 t_setCount5 t_setLength5 t_spareFar5 t_spareSize5 t_tokenFar5 t_tokenSize5 t_upper5 t_weight5 =>
chk (inb (((5 : Int32) * v2_1) + v3_1) 30) <| nm (upd t_tried3 (((5 : Int32) * v2_1) + v3_1).toNatClampNeg t_length_5) fun t_tried5 => nm (v3_1 + Int32.ofInt (1)) fun y2 => rec y2 t_steps_5 t_tokens_5 t_spare_5 t_kind_5 t_length_5 t_blockRounds_5 t_rowSize_5 t_litMany_5 t_farMany_5 t_setMany_5 t_choice5 t_farCount5 t_farLength5 t_litCount5 t_litLength5 t_matchFar5 t_matchSize5 t_price5 t_rowMore5 t_rowSymbol5 t_setCount5 t_setLength5 t_spareFar5 t_spareSize5 t_tokenFar5 t_tokenSize5 t_tried5 t_upper5 t_weight5)
def L_MD_deflate_62 (F : Nat) (t_bytes : Nat → Int32) (t_effort t_size v2_1 z1 : Int32) : Nat → Int32 → Int32 → Int32 → Int32 → Int32 → Int32 → Int32 → Int32 → Int32 → Int32 → Int32 → (Nat → Int32) → (Nat → Int32) → (Nat → Int32) → (Nat → Int32) → (Nat → Int32) → (Nat → Int32) → (Nat → Int32) → (Nat → Int32) → (Nat → Int32) → (Nat → Int32) → (Nat → Int32) → (Nat → Int32) → (Nat → Int32) → (Nat → Int32) → (Nat → Int32) → (Nat → Int32) → (Nat → Int32) → (Nat → Int32) → (Nat → Int32) → Option (Int32 × Int32 × Int32 × Int32 × Int32 × Int32 × Int32 × Int32 × Int32 × Int32 × Int32 × (Nat → Int32) × (Nat → Int32) × (Nat → Int32) × (Nat → Int32) × (Nat → Int32) × (Nat → Int32) × (Nat → Int32) × (Nat → Int32) × (Nat → Int32) × (Nat → Int32) × (Nat → Int32) × (Nat → Int32) × (Nat → Int32) × (Nat → Int32) × (Nat → Int32) × (Nat → Int32) × (Nat → Int32) × (Nat → Int32) × (Nat → Int32))
  | 0 => fun _ _ _ _ _ _ _ _ _ _ _ _ _ _ _ _ _ _ _ _ _ _ _ _ _ _ _ _ _ _ => none
  | f + 1 => fun v3_1 t_steps_3 t_tokens_3 t_spare_3 t_kind_3 t_length_3 t_blockRounds_3 t_rowSize_3 t_litMany_3 t_farMany_3 t_setMany_3 t_choice3 t_farCount3 t_farLength3 t_litCount3 t_litLength3 t_matchFar3 t_matchSize3 t_price3 t_rowMore3 t_rowSymbol3 t_setCount3 t_setLength3 t_spareFar3 t_spareSize3 t_tokenFar3 t_tokenSize3 t_tried3 t_upper3 t_weight3 => B_MD_deflate_62 F t_bytes t_effort t_size v2_1 z1 (L_MD_deflate_62 F t_bytes t_effort t_size v2_1 z1 f) v3_1 t_steps_3 t_tokens_3 t_spare_3 t_kind_3 t_length_3 t_blockRounds_3 t_rowSize_3 t_litMany_3 t_farMany_3 t_setMany_3 t_choice3 t_farCount3 t_farLength3 t_litCount3 t_litLength3 t_matchFar3 t_matchSize3 t_price3 t_rowMore3 t_rowSymbol3 t_setCount3 t_setLength3 t_spareFar3 t_spareSize3 t_tokenFar3 t_tokenSize3 t_tried3 t_upper3 t_weight3
def B_MD_deflate_53 (F : Nat) (t_bytes : Nat → Int32) (t_effort t_size z1 : Int32) (rec : Int32 → Int32 → Int32 → Int32 → Int32 → Int32 → Int32 → Int32 → Int32 → Int32 → Int32 → (Nat → Int32) → (Nat → Int32) → (Nat → Int32) → (Nat → Int32) → (Nat → Int32) → (Nat → Int32) → (Nat → Int32) → (Nat → Int32) → (Nat → Int32) → (Nat → Int32) → (Nat → Int32) → (Nat → Int32) → (Nat → Int32) → (Nat → Int32) → (Nat → Int32) → (Nat → Int32) → (Nat → Int32) → (Nat → Int32) → (Nat → Int32) → Option (Int32 × Int32 × Int32 × Int32 × Int32 × Int32 × Int32 × Int32 × Int32 × Int32 × Int32 × (Nat → Int32) × (Nat → Int32) × (Nat → Int32) × (Nat → Int32) × (Nat → Int32) × (Nat → Int32) × (Nat → Int32) × (Nat → Int32) × (Nat → Int32) × (Nat → Int32) × (Nat → Int32) × (Nat → Int32) × (Nat → Int32) × (Nat → Int32) × (Nat → Int32) × (Nat → Int32) × (Nat → Int32) × (Nat → Int32) × (Nat → Int32))) (v2_1 t_steps_1 t_tokens_1 t_spare_1 t_kind_1 t_length_1 t_blockRounds_1 t_rowSize_1 t_litMany_1 t_farMany_1 t_setMany_1 : Int32) (t_choice1 t_farCount1 t_farLength1 t_litCount1 t_litLength1 t_matchFar1 t_matchSize1 t_price1 t_rowMore1 t_rowSymbol1 t_setCount1 t_setLength1 t_spareFar1 t_spareSize1 t_tokenFar1 t_tokenSize1 t_tried1 t_upper1 t_weight1 : Nat → Int32) : Option (Int32 × Int32 × Int32 × Int32 × Int32 × Int32 × Int32 × Int32 × Int32 × Int32 × Int32 × (Nat → Int32) × (Nat → Int32) × (Nat → Int32) × (Nat → Int32) × (Nat → Int32) × (Nat → Int32) × (Nat → Int32) × (Nat → Int32) × (Nat → Int32) × (Nat → Int32) × (Nat → Int32) × (Nat → Int32) × (Nat → Int32) × (Nat → Int32) × (Nat → Int32) × (Nat → Int32) × (Nat → Int32) × (Nat → Int32) × (Nat → Int32)) :=
(if z1 ≤ v2_1 then
some (v2_1, t_steps_1, t_tokens_1, t_spare_1, t_kind_1, t_length_1, t_blockRounds_1, t_rowSize_1, t_litMany_1, t_farMany_1, t_setMany_1, t_choice1, t_farCount1, t_farLength1, t_litCount1, t_litLength1, t_matchFar1, t_matchSize1, t_price1, t_rowMore1, t_rowSymbol1, t_setCount1, t_setLength1, t_spareFar1, t_spareSize1, t_tokenFar1, t_tokenSize1, t_tried1, t_upper1, t_weight1)
else
nm (v2_1 + (1 : Int32)) fun y1 => bnd30 (L_MD_deflate_62 F t_bytes t_effort t_size v2_1 z1 F y1 t_steps_1 t_tokens_1 t_spare_1 t_kind_1 t_length_1 t_blockRounds_1 t_rowSize_1 t_litMany_1 t_farMany_1 t_setMany_1 t_choice1 t_farCount1 t_farLength1 t_litCount1 t_litLength1 t_matchFar1 t_matchSize1 t_price1 t_rowMore1 t_rowSymbol1 t_setCount1 t_setLength1 t_spareFar1 t_spareSize1 t_tokenFar1 t_tokenSize1 t_tried1 t_upper1 t_weight1) fun v3_3 t_steps_6 t_tokens_6 t_spare_6 t_kind_6 t_length_6 t_blockRounds_6 t_rowSize_6 t_litMany_6 t_farMany_6 t_setMany_6 t_choice6 t_farCount6 t_farLength6 t_litCount6 t_litLength6 t_matchFar6 t_matchSize6 t_price6 t_rowMore6 t_rowSymbol6 t_setCount6 t_setLength6 t_spareFar6 t_spareSize6 t_tokenFar6 t_tokenSize6 t_tried6 t_upper6 t_weight6 =>
nm (v2_1 + Int32.ofInt (1)) fun y3 => rec y3 t_steps_6 t_tokens_6 t_spare_6 t_kind_6 t_length_6 t_blockRounds_6 t_rowSize_6 t_litMany_6 t_farMany_6 t_setMany_6 t_choice6 t_farCount6 t_farLength6 t_litCount6 t_litLength6 t_matchFar6 t_matchSize6 t_price6 t_rowMore6 t_rowSymbol6 t_setCount6 t_setLength6 t_spareFar6 t_spareSize6 t_tokenFar6 t_tokenSize6 t_tried6 t_upper6 t_weight6)
def L_MD_deflate_53 (F : Nat) (t_bytes : Nat → Int32) (t_effort t_size z1 : Int32) : Nat → Int32 → Int32 → Int32 → Int32 → Int32 → Int32 → Int32 → Int32 → Int32 → Int32 → Int32 → (Nat → Int32) → (Nat → Int32) → (Nat → Int32) → (Nat → Int32) → (Nat → Int32) → (Nat → Int32) → (Nat → Int32) → (Nat → Int32) → (Nat → Int32) → (Nat → Int32) → (Nat → Int32) → (Nat → Int32) → (Nat → Int32) → (Nat → Int32) → (Nat → Int32) → (Nat → Int32) → (Nat → Int32) → (Nat → Int32) → (Nat → Int32) → Option (Int32 × Int32 × Int32 × Int32 × Int32 × Int32 × Int32 × Int32 × Int32 × Int32 × Int32 × (Nat → Int32) × (Nat → Int32) × (Nat → Int32) × (Nat → Int32) × (Nat → Int32) × (Nat → Int32) × (Nat → Int32) × (Nat → Int32) × (Nat → Int32) × (Nat → Int32) × (Nat → Int32) × (Nat → Int32) × (Nat → Int32) × (Nat → Int32) × (Nat → Int32) × (Nat → Int32) × (Nat → Int32) × (Nat → Int32) × (Nat → Int32))
  | 0 => fun _ _ _ _ _ _ _ _ _ _ _ _ _ _ _ _ _ _ _ _ _ _ _ _ _ _ _ _ _ _ => none
  | f + 1 => fun v2_1 t_steps_1 t_tokens_1 t_spare_1 t_kind_1 t_length_1 t_blockRounds_1 t_rowSize_1 t_litMany_1 t_farMany_1 t_setMany_1 t_choice1 t_farCount1 t_farLength1 t_litCount1 t_litLength1 t_matchFar1 t_matchSize1 t_price1 t_rowMore1 t_rowSymbol1 t_setCount1 t_setLength1 t_spareFar1 t_spareSize1 t_tokenFar1 t_tokenSize1 t_tried1 t_upper1 t_weight1 => B_MD_deflate_53 F t_bytes t_effort t_size z1 (L_MD_deflate_53 F t_bytes t_effort t_size z1 f) v2_1 t_steps_1 t_tokens_1 t_spare_1 t_kind_1 t_length_1 t_blockRounds_1 t_rowSize_1 t_litMany_1 t_farMany_1 t_setMany_1 t_choice1 t_farCount1 t_farLength1 t_litCount1 t_litLength1 t_matchFar1 t_matchSize1 t_price1 t_rowMore1 t_rowSymbol1 t_setCount1 t_setLength1 t_spareFar1 t_spareSize1 t_tokenFar1 t_tokenSize1 t_tried1 t_upper1 t_weight1
def B_MD_deflate_134 (F : Nat) (t_tried7 : Nat → Int32) (v2_4 z1 : Int32) (rec : Int32 → (Nat → Int32) → (Nat → Int32) → Option (Int32 × (Nat → Int32) × (Nat → Int32))) (v3_4 : Int32) (t_least5 t_nextCut3 : Nat → Int32) : Option (Int32 × (Nat → Int32) × (Nat → Int32)) :=
(if z1 < v3_4 then
some (v3_4, t_least5, t_nextCut3)
else
chk (inb (((5 : Int32) * v2_4) + v3_4) 30) <| chk (inb v3_4 6) <| nm ((t_tried7 (((5 : Int32) * v2_4) + v3_4).toNatClampNeg) + (t_least5 v3_4.toNatClampNeg)) fun y6 => chk (inb v2_4 6) <| bnd2 (if (t_least5 v2_4.toNatClampNeg) < (0 : Int32) then
chk (inb v2_4 6) <| nm (upd t_least5 v2_4.toNatClampNeg y6) fun t_least8 => chk (inb v2_4 6) <| nm (upd t_nextCut3 v2_4.toNatClampNeg v3_4) fun t_nextCut6 => some (t_least8, t_nextCut6)
else
chk (inb v2_4 6) <| (if (t_least5 v2_4.toNatClampNeg) ≤ y6 then
some (t_least5, t_nextCut3)
else
chk (inb v2_4 6) <| nm (upd t_least5 v2_4.toNatClampNeg y6) fun t_least9 => chk (inb v2_4 6) <| nm (upd t_nextCut3 v2_4.toNatClampNeg v3_4) fun t_nextCut7 => some (t_least9, t_nextCut7))) fun t_least7 t_nextCut5 =>
nm (v3_4 + Int32.ofInt (1)) fun y7 => rec y7 t_least7 t_nextCut5)
def L_MD_deflate_134 (F : Nat) (t_tried7 : Nat → Int32) (v2_4 z1 : Int32) : Nat → Int32 → (Nat → Int32) → (Nat → Int32) → Option (Int32 × (Nat → Int32) × (Nat → Int32))
  | 0 => fun _ _ _ => none
  | f + 1 => fun v3_4 t_least5 t_nextCut3 => B_MD_deflate_134 F t_tried7 v2_4 z1 (L_MD_deflate_134 F t_tried7 v2_4 z1 f) v3_4 t_least5 t_nextCut3
def B_MD_deflate_119 (F : Nat) (t_tried7 : Nat → Int32) (z1 : Int32) (rec : Int32 → (Nat → Int32) → (Nat → Int32) → Option (Int32 × (Nat → Int32) × (Nat → Int32))) (v2_4 : Int32) (t_least2 t_nextCut1 : Nat → Int32) : Option (Int32 × (Nat → Int32) × (Nat → Int32)) :=
(if v2_4 < (0 : Int32) then
some (v2_4, t_least2, t_nextCut1)
else
chk (inb v2_4 6) <| nm (upd t_least2 v2_4.toNatClampNeg (-1 : Int32)) fun t_least4 => nm (v2_4 + (1 : Int32)) fun y5 => bnd3 (L_MD_deflate_134 F t_tried7 v2_4 z1 F y5 t_least4 t_nextCut1) fun v3_6 t_least10 t_nextCut8 =>
nm (v2_4 + Int32.ofInt (-1)) fun y8 => rec y8 t_least10 t_nextCut8)
def L_MD_deflate_119 (F : Nat) (t_tried7 : Nat → Int32) (z1 : Int32) : Nat → Int32 → (Nat → Int32) → (Nat → Int32) → Option (Int32 × (Nat → Int32) × (Nat → Int32))
  | 0 => fun _ _ _ => none
  | f + 1 => fun v2_4 t_least2 t_nextCut1 => B_MD_deflate_119 F t_tried7 z1 (L_MD_deflate_119 F t_tried7 z1 f) v2_4 t_least2 t_nextCut1
def B_MD_deflate_207 (F : Nat) (t_bytes : Nat → Int32) (t_effort : Int32) (t_nextCut9 : Nat → Int32) (t_size z1 : Int32) (rec : Int32 → Int32 → Int32 → Int32 → Int32 → Int32 → Int32 → Int32 → Int32 → Int32 → Int32 → Int32 → Int32 → Int32 → (Nat → Int32) → (Nat → Int32) → (Nat → Int32) → (Nat → Int32) → (Nat → Int32) → (Nat → Int32) → (Nat → Int32) → (Nat → Int32) → (Nat → Int32) → (Nat → Int32) → (Nat → Int32) → (Nat → Int32) → (Nat → Int32) → (Nat → Int32) → (Nat → Int32) → (Nat → Int32) → (Nat → Int32) → (Nat → Int32) → (Nat → Int32) → (Nat → Int32) → (Nat → Int32) → (Nat → Int32) → (Nat → Int32) → (Nat → Int32) → (Nat → Int32) → (Nat → Int32) → (Nat → Int32) → (Nat → Int32) → Option (Int32 × Int32 × Int32 × Int32 × Int32 × Int32 × Int32 × Int32 × Int32 × Int32 × Int32 × Int32 × Int32 × Int32 × (Nat → Int32) × (Nat → Int32) × (Nat → Int32) × (Nat → Int32) × (Nat → Int32) × (Nat → Int32) × (Nat → Int32) × (Nat → Int32) × (Nat → Int32) × (Nat → Int32) × (Nat → Int32) × (Nat → Int32) × (Nat → Int32) × (Nat → Int32) × (Nat → Int32) × (Nat → Int32) × (Nat → Int32) × (Nat → Int32) × (Nat → Int32) × (Nat → Int32) × (Nat → Int32) × (Nat → Int32) × (Nat → Int32) × (Nat → Int32) × (Nat → Int32) × (Nat → Int32) × (Nat → Int32) × (Nat → Int32))) (v2_7 t_bits_1 t_steps_8 t_rounds_1 t_blocks_1 t_tokens_8 t_spare_8 t_kind_8 t_length_8 t_blockRounds_8 t_rowSize_8 t_litMany_8 t_farMany_8 t_setMany_8 : Int32) (t_blockBits1 t_blockFrom1 t_blockKind1 t_blockMatches1 t_blockSize1 t_blockTokens1 t_choice8 t_coded1 t_farCode1 t_farCount8 t_farLength8 t_litCode1 t_litCount8 t_litLength8 t_matchFar8 t_matchSize8 t_price8 t_rowMore8 t_rowSymbol8 t_setCode1 t_setCount8 t_setLength8 t_spareFar8 t_spareSize8 t_tokenFar8 t_tokenSize8 t_upper8 t_weight8 : Nat → Int32) : Option (Int32 × Int32 × Int32 × Int32 × Int32 × Int32 × Int32 × Int32 × Int32 × Int32 × Int32 × Int32 × Int32 × Int32 × (Nat → Int32) × (Nat → Int32) × (Nat → Int32) × (Nat → Int32) × (Nat → Int32) × (Nat → Int32) × (Nat → Int32) × (Nat → Int32) × (Nat → Int32) × (Nat → Int32) × (Nat → Int32) × (Nat → Int32) × (Nat → Int32) × (Nat → Int32) × (Nat → Int32) × (Nat → Int32) × (Nat → Int32) × (Nat → Int32) × (Nat → Int32) × (Nat → Int32) × (Nat → Int32) × (Nat → Int32) × (Nat → Int32) × (Nat → Int32) × (Nat → Int32) × (Nat → Int32) × (Nat → Int32) × (Nat → Int32)) :=
(if z1 ≤ v2_7 then
some (v2_7, t_bits_1, t_steps_8, t_rounds_1, t_blocks_1, t_tokens_8, t_spare_8, t_kind_8, t_length_8, t_blockRounds_8, t_rowSize_8, t_litMany_8, t_farMany_8, t_setMany_8, t_blockBits1, t_blockFrom1, t_blockKind1, t_blockMatches1, t_blockSize1, t_blockTokens1, t_choice8, t_coded1, t_farCode1, t_farCount8, t_farLength8, t_litCode1, t_litCount8, t_litLength8, t_matchFar8, t_matchSize8, t_price8, t_rowMore8, t_rowSymbol8, t_setCode1, t_setCount8, t_setLength8, t_spareFar8, t_spareSize8, t_tokenFar8, t_tokenSize8, t_upper8, t_weight8)
else
bnd1 (m_MD_cut F t_size v2_7) fun r3 =>
chk (inb v2_7 6) <| bnd1 (m_MD_cut F t_size (t_nextCut9 v2_7.toNatClampNeg)) fun r4 =>
bnd41 (m_MD_putBlock F t_bits_1 t_blockBits1 t_blockFrom1 t_blockKind1 t_blockMatches1 t_blockSize1 t_blockTokens1 t_blocks_1 t_bytes t_choice8 t_coded1 t_effort t_farCode1 t_farCount8 t_farLength8 t_farMany_8 t_litCode1 t_litCount8 t_litLength8 t_litMany_8 t_matchFar8 t_matchSize8 t_price8 t_rounds_1 t_rowMore8 t_rowSize_8 t_rowSymbol8 t_setCode1 t_setCount8 t_setLength8 t_setMany_8 t_size t_spare_8 t_spareFar8 t_spareSize8 t_steps_8 t_tokenFar8 t_tokenSize8 t_upper8 t_weight8 r3 r4) fun t_bits_3 t_steps_10 t_rounds_3 t_blocks_3 t_tokens_10 t_spare_10 t_kind_10 t_length_10 t_blockRounds_10 t_rowSize_10 t_litMany_10 t_farMany_10 t_setMany_10 t_blockBits3 t_blockFrom3 t_blockKind3 t_blockMatches3 t_blockSize3 t_blockTokens3 t_choice10 t_coded3 t_farCode3 t_farCount10 t_farLength10 t_litCode3 t_litCount10 t_litLength10 t_matchFar10 t_matchSize10 t_price10 t_rowMore10 t_rowSymbol10 t_setCode3 t_setCount10 t_setLength10 t_spareFar10 t_spareSize10 t_tokenFar10 t_tokenSize10 t_upper10 t_weight10 =>
chk (inb v2_7 6) <| nm (t_nextCut9 v2_7.toNatClampNeg) fun y9 => rec y9 t_bits_3 t_steps_10 t_rounds_3 t_blocks_3 t_tokens_10 t_spare_10 t_kind_10 t_length_10 t_blockRounds_10 t_rowSize_10 t_litMany_10 t_farMany_10 t_setMany_10 t_blockBits3 t_blockFrom3 t_blockKind3 t_blockMatches3 t_blockSize3 t_blockTokens3 t_choice10 t_coded3 t_farCode3 t_farCount10 t_farLength10 t_litCode3 t_litCount10 t_litLength10 t_matchFar10 t_matchSize10 t_price10 t_rowMore10 t_rowSymbol10 t_setCode3 t_setCount10 t_setLength10 t_spareFar10 t_spareSize10 t_tokenFar10 t_tokenSize10 t_upper10 t_weight10)
def L_MD_deflate_207 (F : Nat) (t_bytes : Nat → Int32) (t_effort : Int32) (t_nextCut9 : Nat → Int32) (t_size z1 : Int32) : Nat → Int32 → Int32 → Int32 → Int32 → Int32 → Int32 → Int32 → Int32 → Int32 → Int32 → Int32 → Int32 → Int32 → Int32 → (Nat → Int32) → (Nat → Int32) → (Nat → Int32) → (Nat → Int32) → (Nat → Int32) → (Nat → Int32) → (Nat → Int32) → (Nat → Int32) → (Nat → Int32) → (Nat → Int32) → (Nat → Int32) → (Nat → Int32) → (Nat → Int32) → (Nat → Int32) → (Nat → Int32) → (Nat → Int32) → (Nat → Int32) → (Nat → Int32) → (Nat → Int32) → (Nat → Int32) → (Nat → Int32) → (Nat → Int32) → (Nat → Int32) → (Nat → Int32) → (Nat → Int32) → (Nat → Int32) → (Nat → Int32) → (Nat → Int32) → Option (Int32 × Int32 × Int32 × Int32 × Int32 × Int32 × Int32 × Int32 × Int32 × Int32 × Int32 × Int32 × Int32 × Int32 × (Nat → Int32) × (Nat → Int32) × (Nat → Int32) × (Nat → Int32) × (Nat → Int32) × (Nat → Int32) × (Nat → Int32) × (Nat → Int32) × (Nat → Int32) × (Nat → Int32) × (Nat → Int32) × (Nat → Int32) × (Nat → Int32) × (Nat → Int32) × (Nat → Int32) × (Nat → Int32) × (Nat → Int32) × (Nat → Int32) × (Nat → Int32) × (Nat → Int32) × (Nat → Int32) × (Nat → Int32) × (Nat → Int32) × (Nat → Int32) × (Nat → Int32) × (Nat → Int32) × (Nat → Int32) × (Nat → Int32))
  | 0 => fun _ _ _ _ _ _ _ _ _ _ _ _ _ _ _ _ _ _ _ _ _ _ _ _ _ _ _ _ _ _ _ _ _ _ _ _ _ _ _ _ _ _ => none
  | f + 1 => fun v2_7 t_bits_1 t_steps_8 t_rounds_1 t_blocks_1 t_tokens_8 t_spare_8 t_kind_8 t_length_8 t_blockRounds_8 t_rowSize_8 t_litMany_8 t_farMany_8 t_setMany_8 t_blockBits1 t_blockFrom1 t_blockKind1 t_blockMatches1 t_blockSize1 t_blockTokens1 t_choice8 t_coded1 t_farCode1 t_farCount8 t_farLength8 t_litCode1 t_litCount8 t_litLength8 t_matchFar8 t_matchSize8 t_price8 t_rowMore8 t_rowSymbol8 t_setCode1 t_setCount8 t_setLength8 t_spareFar8 t_spareSize8 t_tokenFar8 t_tokenSize8 t_upper8 t_weight8 => B_MD_deflate_207 F t_bytes t_effort t_nextCut9 t_size z1 (L_MD_deflate_207 F t_bytes t_effort t_nextCut9 t_size z1 f) v2_7 t_bits_1 t_steps_8 t_rounds_1 t_blocks_1 t_tokens_8 t_spare_8 t_kind_8 t_length_8 t_blockRounds_8 t_rowSize_8 t_litMany_8 t_farMany_8 t_setMany_8 t_blockBits1 t_blockFrom1 t_blockKind1 t_blockMatches1 t_blockSize1 t_blockTokens1 t_choice8 t_coded1 t_farCode1 t_farCount8 t_farLength8 t_litCode1 t_litCount8 t_litLength8 t_matchFar8 t_matchSize8 t_price8 t_rowMore8 t_rowSymbol8 t_setCode1 t_setCount8 t_setLength8 t_spareFar8 t_spareSize8 t_tokenFar8 t_tokenSize8 t_upper8 t_weight8
def m_MD_deflate (F : Nat) (t_blockBits t_blockFrom t_blockKind t_blockMatches : Nat → Int32) (t_blockRounds : Int32) (t_blockSize t_blockTokens t_bytes t_choice t_coded : Nat → Int32) (t_effort : Int32) (t_farCode t_farCount t_farLength : Nat → Int32) (t_farMany t_kind : Int32) (t_least : Nat → Int32) (t_length : Int32) (t_litCode t_litCount t_litLength : Nat → Int32) (t_litMany : Int32) (t_matchFar t_matchSize t_nextCut t_price t_rowMore : Nat → Int32) (t_rowSize : Int32) (t_rowSymbol t_setCode t_setCount t_setLength : Nat → Int32) (t_setMany t_size t_spare : Int32) (t_spareFar t_spareSize t_tokenFar t_tokenSize : Nat → Int32) (t_tokens : Int32) (t_tried t_upper t_weight : Nat → Int32) : Option (Int32 × Int32 × Int32 × Int32 × Int32 × Int32 × Int32 × Int32 × Int32 × Int32 × Int32 × Int32 × Int32 × Int32 × Int32 × Int32 × (Nat → Int32) × (Nat → Int32) × (Nat → Int32) × (Nat → Int32) × (Nat → Int32) × (Nat → Int32) × (Nat → Int32) × (Nat → Int32) × (Nat → Int32) × (Nat → Int32) × (Nat → Int32) × (Nat → Int32) × (Nat → Int32) × (Nat → Int32) × (Nat → Int32) × (Nat → Int32) × (Nat → Int32) × (Nat → Int32) × (Nat → Int32) × (Nat → Int32) × (Nat → Int32) × (Nat → Int32) × (Nat → Int32) × (Nat → Int32) × (Nat → Int32) × (Nat → Int32) × (Nat → Int32) × (Nat → Int32) × (Nat → Int32) × (Nat → Int32) × (Nat → Int32)) :=
bnd1 (if t_size = (0 : Int32) then
some (1 : Int32)
else
some (((t_size + (128 : Int32)) - (1 : Int32)) / (128 : Int32))) fun z1 =>
bnd30 (L_MD_deflate_53 F t_bytes t_effort t_size z1 F (0 : Int32) (0 : Int32) t_tokens t_spare t_kind t_length t_blockRounds t_rowSize t_litMany t_farMany t_setMany t_choice t_farCount t_farLength t_litCount t_litLength t_matchFar t_matchSize t_price t_rowMore t_rowSymbol t_setCount t_setLength t_spareFar t_spareSize t_tokenFar t_tokenSize t_tried t_upper t_weight) fun v2_3 t_steps_7 t_tokens_7 t_spare_7 t_kind_7 t_length_7 t_blockRounds_7 t_rowSize_7 t_litMany_7 t_farMany_7 t_setMany_7 t_choice7 t_farCount7 t_farLength7 t_litCount7 t_litLength7 t_matchFar7 t_matchSize7 t_price7 t_rowMore7 t_rowSymbol7 t_setCount7 t_setLength7 t_spareFar7 t_spareSize7 t_tokenFar7 t_tokenSize7 t_tried7 t_upper7 t_weight7 =>
chk (inb z1 6) <| nm (upd t_least z1.toNatClampNeg (0 : Int32)) fun t_least1 => nm (z1 - (1 : Int32)) fun y4 => bnd3 (L_MD_deflate_119 F t_tried7 z1 F y4 t_least1 t_nextCut) fun v2_6 t_least11 t_nextCut9 =>
bnd42 (L_MD_deflate_207 F t_bytes t_effort t_nextCut9 t_size z1 F (0 : Int32) (0 : Int32) t_steps_7 (0 : Int32) (0 : Int32) t_tokens_7 t_spare_7 t_kind_7 t_length_7 t_blockRounds_7 t_rowSize_7 t_litMany_7 t_farMany_7 t_setMany_7 t_blockBits t_blockFrom t_blockKind t_blockMatches t_blockSize t_blockTokens t_choice7 t_coded t_farCode t_farCount7 t_farLength7 t_litCode t_litCount7 t_litLength7 t_matchFar7 t_matchSize7 t_price7 t_rowMore7 t_rowSymbol7 t_setCode t_setCount7 t_setLength7 t_spareFar7 t_spareSize7 t_tokenFar7 t_tokenSize7 t_upper7 t_weight7) fun v2_9 t_bits_4 t_steps_11 t_rounds_4 t_blocks_4 t_tokens_11 t_spare_11 t_kind_11 t_length_11 t_blockRounds_11 t_rowSize_11 t_litMany_11 t_farMany_11 t_setMany_11 t_blockBits4 t_blockFrom4 t_blockKind4 t_blockMatches4 t_blockSize4 t_blockTokens4 t_choice11 t_coded4 t_farCode4 t_farCount11 t_farLength11 t_litCode4 t_litCount11 t_litLength11 t_matchFar11 t_matchSize11 t_price11 t_rowMore11 t_rowSymbol11 t_setCode4 t_setCount11 t_setLength11 t_spareFar11 t_spareSize11 t_tokenFar11 t_tokenSize11 t_upper11 t_weight11 =>
nm ((t_bits_4 + (7 : Int32)) / (8 : Int32)) fun y10 => some (y10, (0 : Int32), y10, t_bits_4, t_steps_11, t_rounds_4, t_blocks_4, t_tokens_11, t_spare_11, t_kind_11, t_length_11, t_blockRounds_11, t_rowSize_11, t_litMany_11, t_farMany_11, t_setMany_11, t_blockBits4, t_blockFrom4, t_blockKind4, t_blockMatches4, t_blockSize4, t_blockTokens4, t_choice11, t_coded4, t_farCode4, t_farCount11, t_farLength11, t_least11, t_litCode4, t_litCount11, t_litLength11, t_matchFar11, t_matchSize11, t_nextCut9, t_price11, t_rowMore11, t_rowSymbol11, t_setCode4, t_setCount11, t_setLength11, t_spareFar11, t_spareSize11, t_tokenFar11, t_tokenSize11, t_tried7, t_upper11, t_weight11)
def m_MD_byteAt (F : Nat) (t_coded : Nat → Int32) (t_codedSize x1 : Int32) : Option (Int32 × Int32) :=
bnd1 (m_MD_within F x1 (0 : Int32) (t_codedSize - (1 : Int32))) fun r1 =>
bnd1 (if r1 = (0 : Int32) then
some (1 : Int32)
else
some (0 : Int32)) fun z1 =>
(if z1 ≤ (0 : Int32) then
chk (inb x1 1300) <| some (t_coded x1.toNatClampNeg, z1)
else
some ((0 : Int32), z1))
def m_MD_block (F : Nat) (t_blockBits t_blockFrom t_blockKind t_blockMatches t_blockSize t_blockTokens : Nat → Int32) (t_blocks x1 x2 : Int32) : Option (Int32 × Int32) :=
bnd1 (m_MD_within F x1 (0 : Int32) (t_blocks - (1 : Int32))) fun r1 =>
bnd1 (if r1 = (0 : Int32) then
some (1 : Int32)
else
some (0 : Int32)) fun z1 =>
(if z1 ≤ (0 : Int32) then
(if x2 = (0 : Int32) then
chk (inb x1 5) <| some (t_blockFrom x1.toNatClampNeg, z1)
else
(if x2 = (1 : Int32) then
chk (inb x1 5) <| some (t_blockSize x1.toNatClampNeg, z1)
else
(if x2 = (2 : Int32) then
chk (inb x1 5) <| some (t_blockKind x1.toNatClampNeg, z1)
else
(if x2 = (3 : Int32) then
chk (inb x1 5) <| some (t_blockBits x1.toNatClampNeg, z1)
else
(if x2 = (4 : Int32) then
chk (inb x1 5) <| some (t_blockTokens x1.toNatClampNeg, z1)
else
(if x2 = (5 : Int32) then
chk (inb x1 5) <| some (t_blockMatches x1.toNatClampNeg, z1)
else
some ((-1 : Int32), z1)))))))
else
some ((0 : Int32), z1))
def m_MD_feedCoded (F : Nat) (t_fed : Nat → Int32) (t_fedSize x1 : Int32) : Option (Int32 × Int32 × Int32 × (Nat → Int32)) :=
bnd1 (m_MD_within F x1 (0 : Int32) (255 : Int32)) fun r1 =>
bnd1 (if r1 = (0 : Int32) then
some (1 : Int32)
else
(if t_fedSize = (1200 : Int32) then
some (2 : Int32)
else
some (0 : Int32))) fun z1 =>
(if z1 ≤ (0 : Int32) then
chk (inb t_fedSize 1200) <| nm (upd t_fed t_fedSize.toNatClampNeg x1) fun t_fed1 => nm (t_fedSize + (1 : Int32)) fun y1 => some (y1, z1, y1, t_fed1)
else
some ((0 : Int32), z1, t_fedSize, t_fed))
def B_MD_pass_80 (F : Nat) (t_coded : Nat → Int32) (x1 z1 : Int32) (rec : Int32 → Int32 → (Nat → Int32) → Option (Int32 × Int32 × (Nat → Int32))) (v4_1 t_fedSize_1 : Int32) (t_fed1 : Nat → Int32) : Option (Int32 × Int32 × (Nat → Int32)) :=
(if z1 ≤ v4_1 then
some (v4_1, t_fedSize_1, t_fed1)
else
chk (inb (x1 + v4_1) 1300) <| chk (inb t_fedSize_1 1200) <| nm (upd t_fed1 t_fedSize_1.toNatClampNeg (t_coded (x1 + v4_1).toNatClampNeg)) fun t_fed3 => nm (t_fedSize_1 + (1 : Int32)) fun y1 => nm (v4_1 + Int32.ofInt (1)) fun y2 => rec y2 y1 t_fed3)
def L_MD_pass_80 (F : Nat) (t_coded : Nat → Int32) (x1 z1 : Int32) : Nat → Int32 → Int32 → (Nat → Int32) → Option (Int32 × Int32 × (Nat → Int32))
  | 0 => fun _ _ _ => none
  | f + 1 => fun v4_1 t_fedSize_1 t_fed1 => B_MD_pass_80 F t_coded x1 z1 (L_MD_pass_80 F t_coded x1 z1 f) v4_1 t_fedSize_1 t_fed1
def m_MD_pass (F : Nat) (t_coded : Nat → Int32) (t_codedSize : Int32) (t_fed : Nat → Int32) (t_fedSize x1 x2 : Int32) : Option (Int32 × Int32 × Int32 × (Nat → Int32)) :=
bnd1 (if x2 ≤ (t_codedSize - x1) then
some x2
else
some (t_codedSize - x1)) fun z1 =>
bnd1 (m_MD_within F x1 (0 : Int32) (t_codedSize - (1 : Int32))) fun r1 =>
bnd1 (if r1 = (0 : Int32) then
some (1 : Int32)
else
(if (0 : Int32) ≤ x2 then
(if (t_fedSize + z1) ≤ (1200 : Int32) then
some (0 : Int32)
else
some (3 : Int32))
else
some (2 : Int32))) fun z2 =>
(if z2 ≤ (0 : Int32) then
bnd3 (L_MD_pass_80 F t_coded x1 z1 F (0 : Int32) t_fedSize t_fed) fun v4_3 t_fedSize_3 t_fed4 =>
some (z1, z2, t_fedSize_3, t_fed4)
else
some ((0 : Int32), z2, t_fedSize, t_fed))
def m_MD_alter (F : Nat) (t_fed : Nat → Int32) (t_fedSize x1 x2 : Int32) : Option (Int32 × Int32 × (Nat → Int32)) :=
bnd1 (m_MD_within F x1 (0 : Int32) (t_fedSize - (1 : Int32))) fun r1 =>
bnd1 (if r1 = (0 : Int32) then
some (1 : Int32)
else
bnd1 (m_MD_within F x2 (0 : Int32) (255 : Int32)) fun r2 =>
(if r2 = (0 : Int32) then
some (2 : Int32)
else
some (0 : Int32))) fun z1 =>
(if z1 ≤ (0 : Int32) then
chk (inb x1 1200) <| nm (t_fed x1.toNatClampNeg) fun y1 => chk (inb x1 1200) <| nm (upd t_fed x1.toNatClampNeg x2) fun t_fed1 => some (y1, z1, t_fed1)
else
some ((0 : Int32), z1, t_fed))
def m_MD_has (F : Nat) (t_at t_fedSize x1 : Int32) : Option (Int32) :=
(if ((8 : Int32) * t_fedSize) < (t_at + x1) then
some (0 : Int32)
else
some (1 : Int32))
def B_MD_take_4 (F : Nat) (t_fed : Nat → Int32) (x1 : Int32) (rec : Int32 → Int32 → Int32 → Option (Int32 × Int32 × Int32)) (v2_1 v3_1 t_at_1 : Int32) : Option (Int32 × Int32 × Int32) :=
(if x1 ≤ v3_1 then
some (v2_1, v3_1, t_at_1)
else
chk (inb (t_at_1 / (8 : Int32)) 1200) <| nm (v2_1 ||| ((((t_fed (t_at_1 / (8 : Int32)).toNatClampNeg) >>> ((t_at_1 - t_at_1 / (8 : Int32) * (8 : Int32)) &&& 31)) &&& (1 : Int32)) <<< (v3_1 &&& 31))) fun y1 => nm (t_at_1 + (1 : Int32)) fun y2 => nm (v3_1 + Int32.ofInt (1)) fun y3 => rec y1 y3 y2)
def L_MD_take_4 (F : Nat) (t_fed : Nat → Int32) (x1 : Int32) : Nat → Int32 → Int32 → Int32 → Option (Int32 × Int32 × Int32)
  | 0 => fun _ _ _ => none
  | f + 1 => fun v2_1 v3_1 t_at_1 => B_MD_take_4 F t_fed x1 (L_MD_take_4 F t_fed x1 f) v2_1 v3_1 t_at_1
def m_MD_take (F : Nat) (t_at : Int32) (t_fed : Nat → Int32) (x1 : Int32) : Option (Int32 × Int32) :=
bnd3 (L_MD_take_4 F t_fed x1 F (0 : Int32) (0 : Int32) t_at) fun v2_3 v3_3 t_at_3 =>
some (v2_3, t_at_3)
def m_MD_broken (F : Nat) (x1 : Int32) : Option (Int32 × Int32) :=
some ((3 : Int32), x1)
def m_MD_tell (F : Nat) (t_out : Nat → Int32) (t_outSize t_room x1 : Int32) : Option (Int32 × Int32 × (Nat → Int32)) :=
(if t_outSize = t_room then
some ((4 : Int32), t_outSize, t_out)
else
chk (inb t_outSize 2000) <| nm (upd t_out t_outSize.toNatClampNeg x1) fun t_out1 => nm (t_outSize + (1 : Int32)) fun y1 => some ((0 : Int32), y1, t_out1))
def B_MD_symbol_6 (F : Nat) (n_p1 : Nat) (p1 : Nat → Int32) (x3 : Int32) (rec : Int32 → Int32 → Option (Int32 × Int32)) (v4_1 v5_1 : Int32) : Option (Int32 × Int32) :=
(if x3 ≤ v5_1 then
some (v4_1, v5_1)
else
chk (inb v5_1 n_p1) <| bnd1 (if (p1 v5_1.toNatClampNeg) ≤ v4_1 then
some v4_1
else
chk (inb v5_1 n_p1) <| some (p1 v5_1.toNatClampNeg)) fun z1 =>
nm (v5_1 + Int32.ofInt (1)) fun y1 => rec z1 y1)
def L_MD_symbol_6 (F : Nat) (n_p1 : Nat) (p1 : Nat → Int32) (x3 : Int32) : Nat → Int32 → Int32 → Option (Int32 × Int32)
  | 0 => fun _ _ => none
  | f + 1 => fun v4_1 v5_1 => B_MD_symbol_6 F n_p1 p1 x3 (L_MD_symbol_6 F n_p1 p1 x3 f) v4_1 v5_1
def B_MD_symbol_101 (F : Nat) (n_p1 n_p2 : Nat) (p1 p2 : Nat → Int32) (v6_1 x3 y3 : Int32) (rec : Int32 → Int32 → Option ((Option Int32) × Int32 × Int32)) (v8_1 t_at_3 : Int32) : Option ((Option Int32) × Int32 × Int32) :=
(if x3 ≤ v8_1 then
some (none, v8_1, t_at_3)
else
chk (inb v8_1 n_p1) <| (if (p1 v8_1.toNatClampNeg) = v6_1 then
chk (inb v8_1 n_p2) <| (if (p2 v8_1.toNatClampNeg) = y3 then
nm (t_at_3 + v6_1) fun y4 => some (some v8_1, v8_1, y4)
else
nm (v8_1 + Int32.ofInt (1)) fun y5 => rec y5 t_at_3)
else
nm (v8_1 + Int32.ofInt (1)) fun y6 => rec y6 t_at_3))
def L_MD_symbol_101 (F : Nat) (n_p1 n_p2 : Nat) (p1 p2 : Nat → Int32) (v6_1 x3 y3 : Int32) : Nat → Int32 → Int32 → Option ((Option Int32) × Int32 × Int32)
  | 0 => fun _ _ => none
  | f + 1 => fun v8_1 t_at_3 => B_MD_symbol_101 F n_p1 n_p2 p1 p2 v6_1 x3 y3 (L_MD_symbol_101 F n_p1 n_p2 p1 p2 v6_1 x3 y3 f) v8_1 t_at_3
def B_MD_symbol_44 (F : Nat) (n_p1 n_p2 : Nat) (p1 p2 t_fed : Nat → Int32) (t_fedSize v4_3 x3 : Int32) (rec : Int32 → Int32 → Int32 → Option ((Option Int32) × Int32 × Int32 × Int32)) (v5_4 v6_1 t_at_1 : Int32) : Option ((Option Int32) × Int32 × Int32 × Int32) :=
(if v4_3 < v6_1 then
some (none, v5_4, v6_1, t_at_1)
else
bnd1 (m_MD_has F t_at_1 t_fedSize v6_1) fun r1 =>
(if r1 = (0 : Int32) then
some (some (-1 : Int32), v5_4, v6_1, t_at_1)
else
nm ((t_at_1 + v6_1) - (1 : Int32)) fun y2 => chk (inb (y2 / (8 : Int32)) 1200) <| nm (((2 : Int32) * v5_4) + (((t_fed (y2 / (8 : Int32)).toNatClampNeg) >>> ((y2 - y2 / (8 : Int32) * (8 : Int32)) &&& 31)) &&& (1 : Int32))) fun y3 => bnd3 (L_MD_symbol_101 F n_p1 n_p2 p1 p2 v6_1 x3 y3 F (0 : Int32) t_at_1) fun rr3 v8_3 t_at_5 =>
orc rr3 (fun r2 => some (some r2, y3, v6_1, t_at_5)) (
nm (v6_1 + Int32.ofInt (1)) fun y7 => rec y3 y7 t_at_5)))
def L_MD_symbol_44 (F : Nat) (n_p1 n_p2 : Nat) (p1 p2 t_fed : Nat → Int32) (t_fedSize v4_3 x3 : Int32) : Nat → Int32 → Int32 → Int32 → Option ((Option Int32) × Int32 × Int32 × Int32)
  | 0 => fun _ _ _ => none
  | f + 1 => fun v5_4 v6_1 t_at_1 => B_MD_symbol_44 F n_p1 n_p2 p1 p2 t_fed t_fedSize v4_3 x3 (L_MD_symbol_44 F n_p1 n_p2 p1 p2 t_fed t_fedSize v4_3 x3 f) v5_4 v6_1 t_at_1
def m_MD_symbol (F : Nat) (n_p1 n_p2 : Nat) (p1 p2 : Nat → Int32) (t_at : Int32) (t_fed : Nat → Int32) (t_fedSize x3 : Int32) : Option (Int32 × Int32) :=
bnd2 (L_MD_symbol_6 F n_p1 p1 x3 F (0 : Int32) (0 : Int32)) fun v4_3 v5_3 =>
bnd4 (L_MD_symbol_44 F n_p1 n_p2 p1 p2 t_fed t_fedSize v4_3 x3 F (0 : Int32) (1 : Int32) t_at) fun rr4 v5_6 v6_3 t_at_6 =>
orc rr4 (fun r3 => some (r3, t_at_6)) (
some ((-2 : Int32), t_at_6))
def B_MD_fullness_4 (F : Nat) (n_p0 : Nat) (p0 : Nat → Int32) (x1 : Int32) (rec : Int32 → Int32 → Option (Int32 × Int32)) (v2_1 v3_1 : Int32) : Option (Int32 × Int32) :=
(if x1 ≤ v3_1 then
some (v2_1, v3_1)
else
chk (inb v3_1 n_p0) <| bnd1 (if (p0 v3_1.toNatClampNeg) ≤ (0 : Int32) then
some (0 : Int32)
else
chk (inb v3_1 n_p0) <| some ((1 : Int32) <<< (((15 : Int32) - (p0 v3_1.toNatClampNeg)) &&& 31))) fun z1 =>
nm (v2_1 + z1) fun y1 => nm (v3_1 + Int32.ofInt (1)) fun y2 => rec y1 y2)
def L_MD_fullness_4 (F : Nat) (n_p0 : Nat) (p0 : Nat → Int32) (x1 : Int32) : Nat → Int32 → Int32 → Option (Int32 × Int32)
  | 0 => fun _ _ => none
  | f + 1 => fun v2_1 v3_1 => B_MD_fullness_4 F n_p0 p0 x1 (L_MD_fullness_4 F n_p0 p0 x1 f) v2_1 v3_1
def m_MD_fullness (F : Nat) (n_p0 : Nat) (p0 : Nat → Int32) (x1 : Int32) : Option (Int32) :=
bnd2 (L_MD_fullness_4 F n_p0 p0 x1 F (0 : Int32) (0 : Int32)) fun v2_3 v3_3 =>
some (v2_3 - (32768 : Int32))
def B_MD_readStored_65 (F : Nat) (r2 : Int32) (t_fed : Nat → Int32) (t_fedSize t_room : Int32) (rec : Int32 → Int32 → Int32 → (Nat → Int32) → Option ((Option Int32) × Int32 × Int32 × Int32 × (Nat → Int32))) (v4_1 t_outSize_1 t_at_3 : Int32) (t_out1 : Nat → Int32) : Option ((Option Int32) × Int32 × Int32 × Int32 × (Nat → Int32)) :=
(if r2 ≤ v4_1 then
some (none, v4_1, t_outSize_1, t_at_3, t_out1)
else
bnd1 (m_MD_has F t_at_3 t_fedSize (8 : Int32)) fun r4 =>
(if r4 = (0 : Int32) then
some (some (1 : Int32), v4_1, t_outSize_1, t_at_3, t_out1)
else
bnd2 (m_MD_take F t_at_3 t_fed (8 : Int32)) fun r5 t_at_5 =>
bnd3 (m_MD_tell F t_out1 t_outSize_1 t_room r5) fun r6 t_outSize_3 t_out3 =>
(if r6 ≤ (0 : Int32) then
nm (v4_1 + Int32.ofInt (1)) fun y2 => rec y2 t_outSize_3 t_at_5 t_out3
else
some (some r6, v4_1, t_outSize_3, t_at_5, t_out3))))
def L_MD_readStored_65 (F : Nat) (r2 : Int32) (t_fed : Nat → Int32) (t_fedSize t_room : Int32) : Nat → Int32 → Int32 → Int32 → (Nat → Int32) → Option ((Option Int32) × Int32 × Int32 × Int32 × (Nat → Int32))
  | 0 => fun _ _ _ _ => none
  | f + 1 => fun v4_1 t_outSize_1 t_at_3 t_out1 => B_MD_readStored_65 F r2 t_fed t_fedSize t_room (L_MD_readStored_65 F r2 t_fed t_fedSize t_room f) v4_1 t_outSize_1 t_at_3 t_out1
def m_MD_readStored (F : Nat) (t_at : Int32) (t_fed : Nat → Int32) (t_fedSize : Int32) (t_out : Nat → Int32) (t_outSize t_room t_stop : Int32) : Option (Int32 × Int32 × Int32 × Int32 × (Nat → Int32)) :=
nm (((t_at + (7 : Int32)) / (8 : Int32)) * (8 : Int32)) fun y1 => bnd1 (m_MD_has F y1 t_fedSize (32 : Int32)) fun r1 =>
(if r1 = (0 : Int32) then
some ((1 : Int32), t_outSize, t_stop, y1, t_out)
else
bnd2 (m_MD_take F y1 t_fed (16 : Int32)) fun r2 t_at_1 =>
bnd2 (m_MD_take F t_at_1 t_fed (16 : Int32)) fun r3 t_at_2 =>
(if (r2 + r3) = (65535 : Int32) then
bnd5 (L_MD_readStored_65 F r2 t_fed t_fedSize t_room F (0 : Int32) t_outSize t_at_2 t_out) fun rr2 v4_3 t_outSize_4 t_at_6 t_out4 =>
orc rr2 (fun r7 => some (r7, t_outSize_4, t_stop, t_at_6, t_out4)) (
some ((0 : Int32), t_outSize_4, t_stop, t_at_6, t_out4))
else
bnd2 (m_MD_broken F y1) fun r8 t_stop_1 =>
some (r8, t_outSize, t_stop_1, t_at_2, t_out)))
def B_MD_readRow_143 (F : Nat) (r1 y1 : Int32) (rec : Int32 → Int32 → (Nat → Int32) → Option (Int32 × Int32 × (Nat → Int32))) (v2_3 v6_1 : Int32) (t_row3 : Nat → Int32) : Option (Int32 × Int32 × (Nat → Int32)) :=
(if y1 ≤ v6_1 then
some (v2_3, v6_1, t_row3)
else
bnd1 (if r1 = (16 : Int32) then
chk (inb (v2_3 - (1 : Int32)) 330) <| some (t_row3 (v2_3 - (1 : Int32)).toNatClampNeg)
else
some (0 : Int32)) fun z2 =>
chk (inb v2_3 330) <| nm (upd t_row3 v2_3.toNatClampNeg z2) fun t_row5 => nm (v2_3 + Int32.ofInt (1)) fun y2 => nm (v6_1 + Int32.ofInt (1)) fun y3 => rec y2 y3 t_row5)
def L_MD_readRow_143 (F : Nat) (r1 y1 : Int32) : Nat → Int32 → Int32 → (Nat → Int32) → Option (Int32 × Int32 × (Nat → Int32))
  | 0 => fun _ _ _ => none
  | f + 1 => fun v2_3 v6_1 t_row3 => B_MD_readRow_143 F r1 y1 (L_MD_readRow_143 F r1 y1 f) v2_3 v6_1 t_row3
def B_MD_readRow_143x (F : Nat) (r1 y4 : Int32) (rec : Int32 → Int32 → (Nat → Int32) → Option (Int32 × Int32 × (Nat → Int32))) (v2_6 v6_4 : Int32) (t_row7 : Nat → Int32) : Option (Int32 × Int32 × (Nat → Int32)) :=
(if y4 ≤ v6_4 then
some (v2_6, v6_4, t_row7)
else
bnd1 (if r1 = (16 : Int32) then
chk (inb (v2_6 - (1 : Int32)) 330) <| some (t_row7 (v2_6 - (1 : Int32)).toNatClampNeg)
else
some (0 : Int32)) fun z4 =>
chk (inb v2_6 330) <| nm (upd t_row7 v2_6.toNatClampNeg z4) fun t_row9 => nm (v2_6 + Int32.ofInt (1)) fun y5 => nm (v6_4 + Int32.ofInt (1)) fun y6 => rec y5 y6 t_row9)
def L_MD_readRow_143x (F : Nat) (r1 y4 : Int32) : Nat → Int32 → Int32 → (Nat → Int32) → Option (Int32 × Int32 × (Nat → Int32))
  | 0 => fun _ _ _ => none
  | f + 1 => fun v2_6 v6_4 t_row7 => B_MD_readRow_143x F r1 y4 (L_MD_readRow_143x F r1 y4 f) v2_6 v6_4 t_row7
def B_MD_readRow_2 (F : Nat) (t_fed : Nat → Int32) (t_fedSize : Int32) (t_setCode t_setLength : Nat → Int32) (x1 : Int32) (rec : Int32 → Int32 → Int32 → (Nat → Int32) → Option ((Option Int32) × Int32 × Int32 × Int32 × (Nat → Int32))) (v2_1 t_stop_1 t_at_1 : Int32) (t_row1 : Nat → Int32) : Option ((Option Int32) × Int32 × Int32 × Int32 × (Nat → Int32)) :=
(if x1 ≤ v2_1 then
some (none, v2_1, t_stop_1, t_at_1, t_row1)
else
bnd2 (m_MD_symbol F 19 19 t_setLength t_setCode t_at_1 t_fed t_fedSize (19 : Int32)) fun r1 t_at_3 =>
(if (0 : Int32) ≤ r1 then
(if (16 : Int32) ≤ r1 then
(if r1 = (16 : Int32) then
(if v2_1 = (0 : Int32) then
bnd2 (m_MD_broken F t_at_1) fun r2 t_stop_3 =>
some (some r2, v2_1, t_stop_3, t_at_3, t_row1)
else
bnd1 (m_MD_extraOfRow F r1) fun r3 =>
bnd1 (m_MD_has F t_at_3 t_fedSize r3) fun r4 =>
(if r4 = (0 : Int32) then
some (some (1 : Int32), v2_1, t_stop_1, t_at_3, t_row1)
else
bnd1 (m_MD_extraOfRow F r1) fun r5 =>
bnd2 (m_MD_take F t_at_3 t_fed r5) fun r6 t_at_4 =>
bnd1 (if r1 = (18 : Int32) then
some (11 : Int32)
else
some (3 : Int32)) fun z1 =>
nm (r6 + z1) fun y1 => (if (v2_1 + y1) ≤ x1 then
bnd3 (L_MD_readRow_143 F r1 y1 F v2_1 (0 : Int32) t_row1) fun v2_5 v6_3 t_row6 =>
rec v2_5 t_stop_1 t_at_4 t_row6
else
bnd2 (m_MD_broken F t_at_1) fun r7 t_stop_4 =>
some (some r7, v2_1, t_stop_4, t_at_4, t_row1))))
else
bnd1 (m_MD_extraOfRow F r1) fun r8 =>
bnd1 (m_MD_has F t_at_3 t_fedSize r8) fun r9 =>
(if r9 = (0 : Int32) then
some (some (1 : Int32), v2_1, t_stop_1, t_at_3, t_row1)
else
bnd1 (m_MD_extraOfRow F r1) fun r10 =>
bnd2 (m_MD_take F t_at_3 t_fed r10) fun r11 t_at_5 =>
bnd1 (if r1 = (18 : Int32) then
some (11 : Int32)
else
some (3 : Int32)) fun z3 =>
nm (r11 + z3) fun y4 => (if (v2_1 + y4) ≤ x1 then
bnd3 (L_MD_readRow_143x F r1 y4 F v2_1 (0 : Int32) t_row1) fun v2_8 v6_6 t_row10 =>
rec v2_8 t_stop_1 t_at_5 t_row10
else
bnd2 (m_MD_broken F t_at_1) fun r12 t_stop_5 =>
some (some r12, v2_1, t_stop_5, t_at_5, t_row1))))
else
chk (inb v2_1 330) <| nm (upd t_row1 v2_1.toNatClampNeg r1) fun t_row11 => nm (v2_1 + Int32.ofInt (1)) fun y7 => rec y7 t_stop_1 t_at_3 t_row11)
else
(if r1 = (-1 : Int32) then
some (some (1 : Int32), v2_1, t_stop_1, t_at_3, t_row1)
else
bnd2 (m_MD_broken F t_at_1) fun r13 t_stop_6 =>
some (some r13, v2_1, t_stop_6, t_at_3, t_row1))))
def L_MD_readRow_2 (F : Nat) (t_fed : Nat → Int32) (t_fedSize : Int32) (t_setCode t_setLength : Nat → Int32) (x1 : Int32) : Nat → Int32 → Int32 → Int32 → (Nat → Int32) → Option ((Option Int32) × Int32 × Int32 × Int32 × (Nat → Int32))
  | 0 => fun _ _ _ _ => none
  | f + 1 => fun v2_1 t_stop_1 t_at_1 t_row1 => B_MD_readRow_2 F t_fed t_fedSize t_setCode t_setLength x1 (L_MD_readRow_2 F t_fed t_fedSize t_setCode t_setLength x1 f) v2_1 t_stop_1 t_at_1 t_row1
def m_MD_readRow (F : Nat) (t_at : Int32) (t_fed : Nat → Int32) (t_fedSize : Int32) (t_row t_setCode t_setLength : Nat → Int32) (t_stop x1 : Int32) : Option (Int32 × Int32 × Int32 × (Nat → Int32)) :=
bnd5 (L_MD_readRow_2 F t_fed t_fedSize t_setCode t_setLength x1 F (0 : Int32) t_stop t_at t_row) fun rr2 v2_9 t_stop_7 t_at_6 t_row12 =>
orc rr2 (fun r14 => some (r14, t_stop_7, t_at_6, t_row12)) (
some ((0 : Int32), t_stop_7, t_at_6, t_row12))
def B_MD_useRow_7 (F : Nat) (t_litMany : Int32) (t_row : Nat → Int32) (rec : Int32 → (Nat → Int32) → Option (Int32 × (Nat → Int32))) (v4_1 : Int32) (t_litLength1 : Nat → Int32) : Option (Int32 × (Nat → Int32)) :=
(if (288 : Int32) ≤ v4_1 then
some (v4_1, t_litLength1)
else
bnd1 (if t_litMany ≤ v4_1 then
some (0 : Int32)
else
chk (inb v4_1 330) <| some (t_row v4_1.toNatClampNeg)) fun z1 =>
chk (inb v4_1 288) <| nm (upd t_litLength1 v4_1.toNatClampNeg z1) fun t_litLength3 => nm (v4_1 + Int32.ofInt (1)) fun y1 => rec y1 t_litLength3)
def L_MD_useRow_7 (F : Nat) (t_litMany : Int32) (t_row : Nat → Int32) : Nat → Int32 → (Nat → Int32) → Option (Int32 × (Nat → Int32))
  | 0 => fun _ _ => none
  | f + 1 => fun v4_1 t_litLength1 => B_MD_useRow_7 F t_litMany t_row (L_MD_useRow_7 F t_litMany t_row f) v4_1 t_litLength1
def B_MD_useRow_51 (F : Nat) (t_farMany t_litMany : Int32) (t_row : Nat → Int32) (rec : Int32 → Int32 → Int32 → (Nat → Int32) → Option (Int32 × Int32 × Int32 × (Nat → Int32))) (v2_1 v3_1 v4_4 : Int32) (t_farLength1 : Nat → Int32) : Option (Int32 × Int32 × Int32 × (Nat → Int32)) :=
(if (32 : Int32) ≤ v4_4 then
some (v2_1, v3_1, v4_4, t_farLength1)
else
bnd1 (if t_farMany ≤ v4_4 then
some (0 : Int32)
else
chk (inb (t_litMany + v4_4) 330) <| some (t_row (t_litMany + v4_4).toNatClampNeg)) fun z2 =>
chk (inb v4_4 32) <| nm (upd t_farLength1 v4_4.toNatClampNeg z2) fun t_farLength3 => chk (inb v4_4 32) <| bnd1 (if (t_farLength3 v4_4.toNatClampNeg) ≤ (0 : Int32) then
some v2_1
else
some (v2_1 + (1 : Int32))) fun z3 =>
chk (inb v4_4 32) <| bnd1 (if (t_farLength3 v4_4.toNatClampNeg) = (1 : Int32) then
some (v3_1 + (1 : Int32))
else
some v3_1) fun z4 =>
nm (v4_4 + Int32.ofInt (1)) fun y2 => rec z3 z4 y2 t_farLength3)
def L_MD_useRow_51 (F : Nat) (t_farMany t_litMany : Int32) (t_row : Nat → Int32) : Nat → Int32 → Int32 → Int32 → (Nat → Int32) → Option (Int32 × Int32 × Int32 × (Nat → Int32))
  | 0 => fun _ _ _ _ => none
  | f + 1 => fun v2_1 v3_1 v4_4 t_farLength1 => B_MD_useRow_51 F t_farMany t_litMany t_row (L_MD_useRow_51 F t_farMany t_litMany t_row f) v2_1 v3_1 v4_4 t_farLength1
def m_MD_useRow (F : Nat) (t_farLength : Nat → Int32) (t_farMany : Int32) (t_litLength : Nat → Int32) (t_litMany : Int32) (t_row : Nat → Int32) (t_stop x1 : Int32) : Option (Int32 × Int32 × (Nat → Int32) × (Nat → Int32)) :=
bnd2 (L_MD_useRow_7 F t_litMany t_row F (0 : Int32) t_litLength) fun v4_3 t_litLength4 =>
bnd4 (L_MD_useRow_51 F t_farMany t_litMany t_row F (0 : Int32) (0 : Int32) (0 : Int32) t_farLength) fun v2_3 v3_3 v4_6 t_farLength4 =>
bnd1 (if v2_3 = (0 : Int32) then
some (1 : Int32)
else
(if v2_3 = (1 : Int32) then
(if v3_3 = (1 : Int32) then
some (1 : Int32)
else
some (0 : Int32))
else
some (0 : Int32))) fun z5 =>
bnd1 (m_MD_fullness F 288 t_litLength4 (288 : Int32)) fun r1 =>
(if r1 = (0 : Int32) then
chk (inb (256 : Int32) 288) <| (if (t_litLength4 (256 : Int32).toNatClampNeg) = (0 : Int32) then
bnd2 (m_MD_broken F x1) fun r2 t_stop_1 =>
some (r2, t_stop_1, t_farLength4, t_litLength4)
else
(if z5 = (0 : Int32) then
bnd1 (m_MD_fullness F 32 t_farLength4 (32 : Int32)) fun r3 =>
(if r3 = (0 : Int32) then
some ((0 : Int32), t_stop, t_farLength4, t_litLength4)
else
bnd2 (m_MD_broken F x1) fun r4 t_stop_2 =>
some (r4, t_stop_2, t_farLength4, t_litLength4))
else
some ((0 : Int32), t_stop, t_farLength4, t_litLength4)))
else
bnd2 (m_MD_broken F x1) fun r5 t_stop_3 =>
some (r5, t_stop_3, t_farLength4, t_litLength4))
def B_MD_readSets_108 (F : Nat) (t_fed : Nat → Int32) (t_fedSize y3 : Int32) (rec : Int32 → Int32 → (Nat → Int32) → Option ((Option Int32) × Int32 × Int32 × (Nat → Int32))) (v3_1 t_at_4 : Int32) (t_setLength1 : Nat → Int32) : Option ((Option Int32) × Int32 × Int32 × (Nat → Int32)) :=
(if (19 : Int32) ≤ v3_1 then
some (none, v3_1, t_at_4, t_setLength1)
else
(if y3 ≤ v3_1 then
bnd1 (m_MD_orderOf F v3_1) fun r7 =>
bnd2 (if y3 ≤ v3_1 then
some ((0 : Int32), t_at_4)
else
bnd2 (m_MD_take F t_at_4 t_fed (3 : Int32)) fun r8 t_at_6 =>
some (r8, t_at_6)) fun z1 z2 =>
chk (inb r7 19) <| nm (upd t_setLength1 r7.toNatClampNeg z1) fun t_setLength3 => nm (v3_1 + Int32.ofInt (1)) fun y4 => rec y4 z2 t_setLength3
else
bnd1 (m_MD_has F t_at_4 t_fedSize (3 : Int32)) fun r9 =>
(if r9 = (0 : Int32) then
some (some (1 : Int32), v3_1, t_at_4, t_setLength1)
else
bnd1 (m_MD_orderOf F v3_1) fun r10 =>
bnd2 (if y3 ≤ v3_1 then
some ((0 : Int32), t_at_4)
else
bnd2 (m_MD_take F t_at_4 t_fed (3 : Int32)) fun r11 t_at_7 =>
some (r11, t_at_7)) fun z3 z4 =>
chk (inb r10 19) <| nm (upd t_setLength1 r10.toNatClampNeg z3) fun t_setLength4 => nm (v3_1 + Int32.ofInt (1)) fun y5 => rec y5 z4 t_setLength4)))
def L_MD_readSets_108 (F : Nat) (t_fed : Nat → Int32) (t_fedSize y3 : Int32) : Nat → Int32 → Int32 → (Nat → Int32) → Option ((Option Int32) × Int32 × Int32 × (Nat → Int32))
  | 0 => fun _ _ _ => none
  | f + 1 => fun v3_1 t_at_4 t_setLength1 => B_MD_readSets_108 F t_fed t_fedSize y3 (L_MD_readSets_108 F t_fed t_fedSize y3 f) v3_1 t_at_4 t_setLength1
def m_MD_readSets (F : Nat) (t_at : Int32) (t_farLength : Nat → Int32) (t_farMany : Int32) (t_fed : Nat → Int32) (t_fedSize : Int32) (t_litLength : Nat → Int32) (t_litMany : Int32) (t_row t_setCode t_setLength : Nat → Int32) (t_setMany t_stop x1 : Int32) : Option (Int32 × Int32 × Int32 × Int32 × Int32 × Int32 × (Nat → Int32) × (Nat → Int32) × (Nat → Int32) × (Nat → Int32) × (Nat → Int32)) :=
bnd1 (m_MD_has F t_at t_fedSize (5 : Int32)) fun r1 =>
(if r1 = (0 : Int32) then
some ((1 : Int32), t_stop, t_litMany, t_farMany, t_setMany, t_at, t_farLength, t_litLength, t_row, t_setCode, t_setLength)
else
bnd2 (m_MD_take F t_at t_fed (5 : Int32)) fun r2 t_at_1 =>
nm ((257 : Int32) + r2) fun y1 => (if y1 ≤ (286 : Int32) then
bnd1 (m_MD_has F t_at_1 t_fedSize (5 : Int32)) fun r3 =>
(if r3 = (0 : Int32) then
some ((1 : Int32), t_stop, y1, t_farMany, t_setMany, t_at_1, t_farLength, t_litLength, t_row, t_setCode, t_setLength)
else
bnd2 (m_MD_take F t_at_1 t_fed (5 : Int32)) fun r4 t_at_2 =>
nm ((1 : Int32) + r4) fun y2 => (if y2 ≤ (30 : Int32) then
bnd1 (m_MD_has F t_at_2 t_fedSize (4 : Int32)) fun r5 =>
(if r5 = (0 : Int32) then
some ((1 : Int32), t_stop, y1, y2, t_setMany, t_at_2, t_farLength, t_litLength, t_row, t_setCode, t_setLength)
else
bnd2 (m_MD_take F t_at_2 t_fed (4 : Int32)) fun r6 t_at_3 =>
nm ((4 : Int32) + r6) fun y3 => bnd4 (L_MD_readSets_108 F t_fed t_fedSize y3 F (0 : Int32) t_at_3 t_setLength) fun rr2 v3_3 t_at_8 t_setLength5 =>
orc rr2 (fun r12 => some (r12, t_stop, y1, y2, y3, t_at_8, t_farLength, t_litLength, t_row, t_setCode, t_setLength5)) (
bnd1 (m_MD_fullness F 19 t_setLength5 (19 : Int32)) fun r13 =>
(if r13 = (0 : Int32) then
bnd1 (m_MD_number F 19 19 t_setLength5 t_setCode (19 : Int32)) fun t_setCode1 =>
bnd4 (m_MD_readRow F t_at_8 t_fed t_fedSize t_row t_setCode1 t_setLength5 t_stop (y1 + y2)) fun r14 t_stop_1 t_at_9 t_row1 =>
(if r14 ≤ (0 : Int32) then
bnd4 (m_MD_useRow F t_farLength y2 t_litLength y1 t_row1 t_stop_1 x1) fun r15 t_stop_2 t_farLength1 t_litLength1 =>
some (r15, t_stop_2, y1, y2, y3, t_at_9, t_farLength1, t_litLength1, t_row1, t_setCode1, t_setLength5)
else
some (r14, t_stop_1, y1, y2, y3, t_at_9, t_farLength, t_litLength, t_row1, t_setCode1, t_setLength5))
else
bnd2 (m_MD_broken F x1) fun r16 t_stop_3 =>
some (r16, t_stop_3, y1, y2, y3, t_at_8, t_farLength, t_litLength, t_row, t_setCode, t_setLength5))))
else
bnd2 (m_MD_broken F t_at_1) fun r17 t_stop_4 =>
some (r17, t_stop_4, y1, y2, t_setMany, t_at_2, t_farLength, t_litLength, t_row, t_setCode, t_setLength)))
else
bnd2 (m_MD_broken F t_at) fun r18 t_stop_5 =>
some (r18, t_stop_5, y1, t_farMany, t_setMany, t_at_1, t_farLength, t_litLength, t_row, t_setCode, t_setLength)))
def B_MD_readMatch_227 (F : Nat) (t_room z2 z5 : Int32) (rec : Int32 → Int32 → (Nat → Int32) → Option ((Option Int32) × Int32 × Int32 × (Nat → Int32))) (v9_1 t_outSize_1 : Int32) (t_out1 : Nat → Int32) : Option ((Option Int32) × Int32 × Int32 × (Nat → Int32)) :=
(if z2 ≤ v9_1 then
some (none, v9_1, t_outSize_1, t_out1)
else
chk (inb (t_outSize_1 - z5) 2000) <| bnd3 (m_MD_tell F t_out1 t_outSize_1 t_room (t_out1 (t_outSize_1 - z5).toNatClampNeg)) fun r9 t_outSize_3 t_out3 =>
(if r9 ≤ (0 : Int32) then
nm (v9_1 + Int32.ofInt (1)) fun y1 => rec y1 t_outSize_3 t_out3
else
some (some r9, v9_1, t_outSize_3, t_out3)))
def L_MD_readMatch_227 (F : Nat) (t_room z2 z5 : Int32) : Nat → Int32 → Int32 → (Nat → Int32) → Option ((Option Int32) × Int32 × Int32 × (Nat → Int32))
  | 0 => fun _ _ _ => none
  | f + 1 => fun v9_1 t_outSize_1 t_out1 => B_MD_readMatch_227 F t_room z2 z5 (L_MD_readMatch_227 F t_room z2 z5 f) v9_1 t_outSize_1 t_out1
def m_MD_readMatch (F : Nat) (t_at : Int32) (t_farCode t_farLength t_fed : Nat → Int32) (t_fedSize : Int32) (t_out : Nat → Int32) (t_outSize t_room t_stop x1 x2 : Int32) : Option (Int32 × Int32 × Int32 × Int32 × (Nat → Int32)) :=
bnd1 (if x1 < (265 : Int32) then
some (0 : Int32)
else
(if x1 = (285 : Int32) then
some (0 : Int32)
else
some ((x1 - (261 : Int32)) / (4 : Int32)))) fun z1 =>
bnd1 (m_MD_has F t_at t_fedSize z1) fun r1 =>
(if r1 = (0 : Int32) then
some ((1 : Int32), t_outSize, t_stop, t_at, t_out)
else
bnd2 (if x1 = (285 : Int32) then
some ((258 : Int32), t_at)
else
(if (265 : Int32) ≤ x1 then
bnd2 (m_MD_take F t_at t_fed z1) fun r2 t_at_1 =>
some (((((4 : Int32) + ((x1 - (265 : Int32)) - (x1 - (265 : Int32)) / (4 : Int32) * (4 : Int32))) <<< (z1 &&& 31)) + (3 : Int32)) + r2, t_at_1)
else
bnd2 (m_MD_take F t_at t_fed z1) fun r3 t_at_2 =>
some ((x1 - (254 : Int32)) + r3, t_at_2))) fun z2 z3 =>
bnd2 (m_MD_symbol F 32 32 t_farLength t_farCode z3 t_fed t_fedSize (32 : Int32)) fun r4 t_at_3 =>
(if r4 = (-1 : Int32) then
some ((1 : Int32), t_outSize, t_stop, t_at_3, t_out)
else
(if r4 < (0 : Int32) then
bnd2 (m_MD_broken F z3) fun r5 t_stop_1 =>
some (r5, t_outSize, t_stop_1, t_at_3, t_out)
else
(if r4 < (30 : Int32) then
bnd1 (if (4 : Int32) ≤ r4 then
some ((r4 / (2 : Int32)) - (1 : Int32))
else
some (0 : Int32)) fun z4 =>
bnd1 (m_MD_has F t_at_3 t_fedSize z4) fun r6 =>
(if r6 = (0 : Int32) then
some ((1 : Int32), t_outSize, t_stop, t_at_3, t_out)
else
bnd2 (if (4 : Int32) ≤ r4 then
bnd2 (m_MD_take F t_at_3 t_fed z4) fun r7 t_at_4 =>
some (((((2 : Int32) + (r4 - r4 / (2 : Int32) * (2 : Int32))) <<< (z4 &&& 31)) + (1 : Int32)) + r7, t_at_4)
else
bnd2 (m_MD_take F t_at_3 t_fed z4) fun r8 t_at_5 =>
some ((r4 + (1 : Int32)) + r8, t_at_5)) fun z5 z6 =>
(if z5 ≤ t_outSize then
bnd4 (L_MD_readMatch_227 F t_room z2 z5 F (0 : Int32) t_outSize t_out) fun rr2 v9_3 t_outSize_4 t_out4 =>
orc rr2 (fun r10 => some (r10, t_outSize_4, t_stop, z6, t_out4)) (
some ((0 : Int32), t_outSize_4, t_stop, z6, t_out4))
else
bnd2 (m_MD_broken F x2) fun r11 t_stop_2 =>
some (r11, t_outSize, t_stop_2, z6, t_out)))
else
bnd2 (m_MD_broken F z3) fun r12 t_stop_3 =>
some (r12, t_outSize, t_stop_3, t_at_3, t_out)))))
