def m_Block_setBounds (F : Nat) (x1 x2 : Int32) : Option (Int32 × Int32) :=
some (x1, x2)
def B_Block_keep_58 (F : Nat) (n_t : Nat) (p1_token : Nat → Int32) (y1 : Int32) (rec : Int32 → (Nat → Int32) → Option (Int32 × (Nat → Int32))) (v4_1 : Int32) (t_token1 : Nat → Int32) : Option (Int32 × (Nat → Int32)) :=
(if y1 ≤ v4_1 then
some (v4_1, t_token1)
else
chk (inb v4_1 512) <| chk (inb v4_1 n_t) <| nm (upd t_token1 v4_1.toNatClampNeg (p1_token v4_1.toNatClampNeg)) fun t_token3 => nm (v4_1 + Int32.ofInt (1)) fun y3 => rec y3 t_token3)
def L_Block_keep_58 (F : Nat) (n_t : Nat) (p1_token : Nat → Int32) (y1 : Int32) : Nat → Int32 → (Nat → Int32) → Option (Int32 × (Nat → Int32))
  | 0 => fun _ _ => none
  | f + 1 => fun v4_1 t_token1 => B_Block_keep_58 F n_t p1_token y1 (L_Block_keep_58 F n_t p1_token y1 f) v4_1 t_token1
def m_Block_keep (F : Nat) (n_t : Nat) (p1_bits p1_kind p1_matches p1_size : Int32) (p1_token t_token : Nat → Int32) (x2 x3 : Int32) : Option (Int32 × Int32 × Int32 × Int32 × Int32 × Int32 × (Nat → Int32)) :=
nm (imin p1_size (nI n_t)) fun y1 => nm (p1_bits + x3) fun y2 => bnd2 (L_Block_keep_58 F n_t p1_token y1 F (0 : Int32) t_token) fun v4_3 t_token4 =>
some (p1_kind, p1_bits, y1, p1_matches, x2, y2, t_token4)
def B_Code_longest_4 (F : Nat) (n_t : Nat) (t_length : Nat → Int32) (rec : Int32 → Int32 → Option (Int32 × Int32)) (v1_1 v2_1 : Int32) : Option (Int32 × Int32) :=
(if (nI n_t) ≤ v2_1 then
some (v1_1, v2_1)
else
chk (inb v2_1 n_t) <| nm (imax v1_1 (t_length v2_1.toNatClampNeg)) fun y1 => nm (v2_1 + Int32.ofInt (1)) fun y2 => rec y1 y2)
def L_Code_longest_4 (F : Nat) (n_t : Nat) (t_length : Nat → Int32) : Nat → Int32 → Int32 → Option (Int32 × Int32)
  | 0 => fun _ _ => none
  | f + 1 => fun v1_1 v2_1 => B_Code_longest_4 F n_t t_length (L_Code_longest_4 F n_t t_length f) v1_1 v2_1
def m_Code_longest (F : Nat) (n_t : Nat) (t_length : Nat → Int32) : Option (Int32) :=
bnd2 (L_Code_longest_4 F n_t t_length F (0 : Int32) (0 : Int32)) fun v1_3 v2_3 =>
some v1_3
def B_Code_usedLengths_6 (F : Nat) (n_t : Nat) (t_length : Nat → Int32) (x1 : Int32) (rec : Int32 → Option (Int32)) (v2_1 : Int32) : Option (Int32) :=
(if v2_1 ≤ x1 then
some v2_1
else
(if v2_1 ≤ (0 : Int32) then
some v2_1
else
chk (inb (v2_1 - (1 : Int32)) n_t) <| (if (t_length (v2_1 - (1 : Int32)).toNatClampNeg) = (0 : Int32) then
nm (v2_1 + Int32.ofInt (-1)) fun y2 => rec y2
else
some v2_1)))
def L_Code_usedLengths_6 (F : Nat) (n_t : Nat) (t_length : Nat → Int32) (x1 : Int32) : Nat → Int32 → Option (Int32)
  | 0 => fun _ => none
  | f + 1 => fun v2_1 => B_Code_usedLengths_6 F n_t t_length x1 (L_Code_usedLengths_6 F n_t t_length x1 f) v2_1
def m_Code_usedLengths (F : Nat) (n_t : Nat) (t_length : Nat → Int32) (x1 : Int32) : Option (Int32) :=
nm (nI n_t) fun y1 => bnd1 (L_Code_usedLengths_6 F n_t t_length x1 F y1) fun v2_3 =>
some v2_3
def B_Code_halveCounts_2 (F : Nat) (n_t : Nat) (rec : Int32 → (Nat → Int32) → Option (Int32 × (Nat → Int32))) (v1_1 : Int32) (t_count1 : Nat → Int32) : Option (Int32 × (Nat → Int32)) :=
(if (nI n_t) ≤ v1_1 then
some (v1_1, t_count1)
else
chk (inb v1_1 n_t) <| chk (inb v1_1 n_t) <| nm (upd t_count1 v1_1.toNatClampNeg (((t_count1 v1_1.toNatClampNeg) + (1 : Int32)) / (2 : Int32))) fun t_count3 => nm (v1_1 + Int32.ofInt (1)) fun y1 => rec y1 t_count3)
def L_Code_halveCounts_2 (F : Nat) (n_t : Nat) : Nat → Int32 → (Nat → Int32) → Option (Int32 × (Nat → Int32))
  | 0 => fun _ _ => none
  | f + 1 => fun v1_1 t_count1 => B_Code_halveCounts_2 F n_t (L_Code_halveCounts_2 F n_t f) v1_1 t_count1
def m_Code_halveCounts (F : Nat) (n_t : Nat) (t_count : Nat → Int32) : Option ((Nat → Int32)) :=
bnd2 (L_Code_halveCounts_2 F n_t F (0 : Int32) t_count) fun v1_3 t_count4 =>
some t_count4
def B_JA_fill2_5 (F : Nat) (n_p0 : Nat) (x1 y1 : Int32) (rec : Int32 → (Nat → Int32) → Option (Int32 × (Nat → Int32))) (v2_1 : Int32) (p1 : Nat → Int32) : Option (Int32 × (Nat → Int32)) :=
(if y1 ≤ v2_1 then
some (v2_1, p1)
else
chk (inb v2_1 n_p0) <| nm (upd p1 v2_1.toNatClampNeg x1) fun p3 => nm (v2_1 + Int32.ofInt (1)) fun y2 => rec y2 p3)
def L_JA_fill2_5 (F : Nat) (n_p0 : Nat) (x1 y1 : Int32) : Nat → Int32 → (Nat → Int32) → Option (Int32 × (Nat → Int32))
  | 0 => fun _ _ => none
  | f + 1 => fun v2_1 p1 => B_JA_fill2_5 F n_p0 x1 y1 (L_JA_fill2_5 F n_p0 x1 y1 f) v2_1 p1
def m_JA_fill2 (F : Nat) (n_p0 : Nat) (p0 : Nat → Int32) (x1 : Int32) : Option ((Nat → Int32)) :=
nm (nI n_p0) fun y1 => bnd2 (L_JA_fill2_5 F n_p0 x1 y1 F (0 : Int32) p0) fun v2_3 p4 =>
some p4
def B_CodeSet_measure_19 (F : Nat) (t_perLength : Nat → Int32) (rec : Int32 → Int32 → Int32 → (Nat → Int32) → Option (Int32 × Int32 × Int32 × (Nat → Int32))) (v1_1 t_longest_1 t_free_1 : Int32) (t_next2 : Nat → Int32) : Option (Int32 × Int32 × Int32 × (Nat → Int32)) :=
(if (15 : Int32) < v1_1 then
some (v1_1, t_longest_1, t_free_1, t_next2)
else
chk (inb (v1_1 - (1 : Int32)) 16) <| chk (inb (v1_1 - (1 : Int32)) 16) <| chk (inb v1_1 16) <| nm (upd t_next2 v1_1.toNatClampNeg ((t_next2 (v1_1 - (1 : Int32)).toNatClampNeg) + (t_perLength (v1_1 - (1 : Int32)).toNatClampNeg))) fun t_next4 => chk (inb v1_1 16) <| nm (((2 : Int32) * t_free_1) - (t_perLength v1_1.toNatClampNeg)) fun y1 => chk (inb v1_1 16) <| bnd1 (if (t_perLength v1_1.toNatClampNeg) ≤ (0 : Int32) then
some t_longest_1
else
some v1_1) fun z1 =>
nm (v1_1 + Int32.ofInt (1)) fun y2 => rec y2 z1 y1 t_next4)
def L_CodeSet_measure_19 (F : Nat) (t_perLength : Nat → Int32) : Nat → Int32 → Int32 → Int32 → (Nat → Int32) → Option (Int32 × Int32 × Int32 × (Nat → Int32))
  | 0 => fun _ _ _ _ => none
  | f + 1 => fun v1_1 t_longest_1 t_free_1 t_next2 => B_CodeSet_measure_19 F t_perLength (L_CodeSet_measure_19 F t_perLength f) v1_1 t_longest_1 t_free_1 t_next2
def m_CodeSet_measure (F : Nat) (t_next t_perLength : Nat → Int32) : Option (Int32 × Int32 × (Nat → Int32)) :=
chk (inb (0 : Int32) 16) <| nm (upd t_next (0 : Int32).toNatClampNeg (0 : Int32)) fun t_next1 => bnd4 (L_CodeSet_measure_19 F t_perLength F (1 : Int32) (0 : Int32) (1 : Int32) t_next1) fun v1_3 t_longest_3 t_free_3 t_next5 =>
some (t_longest_3, t_free_3, t_next5)
def B_CodeSet_make_16 (F : Nat) (n_p1 : Nat) (p1 : Nat → Int32) (x2 x3 : Int32) (rec : Int32 → Int32 → (Nat → Int32) → Option (Int32 × Int32 × (Nat → Int32))) (v4_1 t_codes_1 : Int32) (t_perLength2 : Nat → Int32) : Option (Int32 × Int32 × (Nat → Int32)) :=
(if x3 ≤ v4_1 then
some (v4_1, t_codes_1, t_perLength2)
else
chk (inb (x2 + v4_1) n_p1) <| nm (p1 (x2 + v4_1).toNatClampNeg) fun y1 => bnd2 (if y1 ≤ (0 : Int32) then
some (t_codes_1, t_perLength2)
else
(if (15 : Int32) < y1 then
some (t_codes_1, t_perLength2)
else
chk (inb y1 16) <| chk (inb y1 16) <| nm (upd t_perLength2 y1.toNatClampNeg ((t_perLength2 y1.toNatClampNeg) + (1 : Int32))) fun t_perLength5 => nm (t_codes_1 + (1 : Int32)) fun y2 => some (y2, t_perLength5))) fun z1 t_perLength4 =>
nm (v4_1 + Int32.ofInt (1)) fun y3 => rec y3 z1 t_perLength4)
def L_CodeSet_make_16 (F : Nat) (n_p1 : Nat) (p1 : Nat → Int32) (x2 x3 : Int32) : Nat → Int32 → Int32 → (Nat → Int32) → Option (Int32 × Int32 × (Nat → Int32))
  | 0 => fun _ _ _ => none
  | f + 1 => fun v4_1 t_codes_1 t_perLength2 => B_CodeSet_make_16 F n_p1 p1 x2 x3 (L_CodeSet_make_16 F n_p1 p1 x2 x3 f) v4_1 t_codes_1 t_perLength2
def B_CodeSet_make_76 (F : Nat) (n_p1 n_t : Nat) (p1 : Nat → Int32) (x2 x3 : Int32) (rec : Int32 → (Nat → Int32) → (Nat → Int32) → Option (Int32 × (Nat → Int32) × (Nat → Int32))) (v4_4 : Int32) (t_next2 t_symbol1 : Nat → Int32) : Option (Int32 × (Nat → Int32) × (Nat → Int32)) :=
(if x3 ≤ v4_4 then
some (v4_4, t_next2, t_symbol1)
else
chk (inb (x2 + v4_4) n_p1) <| nm (p1 (x2 + v4_4).toNatClampNeg) fun y4 => bnd2 (if y4 ≤ (0 : Int32) then
some (t_next2, t_symbol1)
else
(if (15 : Int32) < y4 then
some (t_next2, t_symbol1)
else
chk (inb y4 16) <| (if (nI n_t) ≤ (t_next2 y4.toNatClampNeg) then
some (t_next2, t_symbol1)
else
chk (inb y4 16) <| chk (inb (t_next2 y4.toNatClampNeg) n_t) <| nm (upd t_symbol1 (t_next2 y4.toNatClampNeg).toNatClampNeg v4_4) fun t_symbol4 => chk (inb y4 16) <| chk (inb y4 16) <| nm (upd t_next2 y4.toNatClampNeg ((t_next2 y4.toNatClampNeg) + (1 : Int32))) fun t_next5 => some (t_next5, t_symbol4)))) fun t_next4 t_symbol3 =>
nm (v4_4 + Int32.ofInt (1)) fun y5 => rec y5 t_next4 t_symbol3)
def L_CodeSet_make_76 (F : Nat) (n_p1 n_t : Nat) (p1 : Nat → Int32) (x2 x3 : Int32) : Nat → Int32 → (Nat → Int32) → (Nat → Int32) → Option (Int32 × (Nat → Int32) × (Nat → Int32))
  | 0 => fun _ _ _ => none
  | f + 1 => fun v4_4 t_next2 t_symbol1 => B_CodeSet_make_76 F n_p1 n_t p1 x2 x3 (L_CodeSet_make_76 F n_p1 n_t p1 x2 x3 f) v4_4 t_next2 t_symbol1
def m_CodeSet_make (F : Nat) (n_p1 n_t : Nat) (p1 t_next t_perLength t_symbol : Nat → Int32) (x2 x3 : Int32) : Option (Int32 × Int32 × Int32 × (Nat → Int32) × (Nat → Int32) × (Nat → Int32)) :=
bnd1 (m_JA_fill2 F 16 t_perLength (0 : Int32)) fun t_perLength1 =>
bnd3 (L_CodeSet_make_16 F n_p1 p1 x2 x3 F (0 : Int32) (0 : Int32) t_perLength1) fun v4_3 t_codes_3 t_perLength6 =>
bnd3 (m_CodeSet_measure F t_next t_perLength6) fun t_longest_1 t_free_1 t_next1 =>
bnd3 (L_CodeSet_make_76 F n_p1 n_t p1 x2 x3 F (0 : Int32) t_next1 t_symbol) fun v4_6 t_next6 t_symbol5 =>
some (t_codes_3, t_longest_1, t_free_1, t_next6, t_perLength6, t_symbol5)
def m_CodeSet_isFull (F : Nat) (t_free : Int32) : Option (Int32) :=
(if t_free = (0 : Int32) then
some (1 : Int32)
else
some (0 : Int32))
def m_CodeSet_mayStandForDistances (F : Nat) (t_codes t_free t_longest : Int32) : Option (Int32) :=
bnd1 (m_CodeSet_isFull F t_free) fun r1 =>
(if r1 = (0 : Int32) then
(if t_codes = (0 : Int32) then
some (1 : Int32)
else
(if t_codes = (1 : Int32) then
(if t_longest = (1 : Int32) then
some (1 : Int32)
else
some (0 : Int32))
else
some (0 : Int32)))
else
some (1 : Int32))
def m_Cutter_forget (F : Nat)  : Option (Int32 × Int32) :=
some ((0 : Int32), (0 : Int32))
def m_Cutter_takenBlock (F : Nat) (t_taken : Nat → Int32) (x1 : Int32) : Option (Nat) :=
chk (inb x1 4) <| chk (inb (t_taken x1.toNatClampNeg) 4) <| nm ((t_taken x1.toNatClampNeg).toNatClampNeg) fun j1 => some j1
def B_Cutter_replacedInTaken_4 (F : Nat) (t_best_replaced t_taken : Nat → Int32) (t_takenCount : Int32) (rec : Int32 → Int32 → Option (Int32 × Int32)) (v1_1 v2_1 : Int32) : Option (Int32 × Int32) :=
(if t_takenCount ≤ v2_1 then
some (v1_1, v2_1)
else
bnd1 (m_Cutter_takenBlock F t_taken v2_1) fun j1 =>
chk (decide (j1 < 4)) <| nm (v1_1 + (t_best_replaced j1)) fun y1 => nm (v2_1 + Int32.ofInt (1)) fun y2 => rec y1 y2)
def L_Cutter_replacedInTaken_4 (F : Nat) (t_best_replaced t_taken : Nat → Int32) (t_takenCount : Int32) : Nat → Int32 → Int32 → Option (Int32 × Int32)
  | 0 => fun _ _ => none
  | f + 1 => fun v1_1 v2_1 => B_Cutter_replacedInTaken_4 F t_best_replaced t_taken t_takenCount (L_Cutter_replacedInTaken_4 F t_best_replaced t_taken t_takenCount f) v1_1 v2_1
def m_Cutter_replacedInTaken (F : Nat) (t_best_replaced t_taken : Nat → Int32) (t_takenCount : Int32) : Option (Int32) :=
bnd2 (L_Cutter_replacedInTaken_4 F t_best_replaced t_taken t_takenCount F (0 : Int32) (0 : Int32)) fun v1_3 v2_3 =>
some v1_3
def B_Matches_link_15 (F : Nat) (t_bytes : Nat → Int32) (x1 : Int32) (rec : Int32 → (Nat → Int32) → (Nat → Int32) → Option (Int32 × (Nat → Int32) × (Nat → Int32))) (v2_1 : Int32) (t_below1 t_bucket2 : Nat → Int32) : Option (Int32 × (Nat → Int32) × (Nat → Int32)) :=
(if x1 ≤ (v2_1 + (2 : Int32)) then
some (v2_1, t_below1, t_bucket2)
else
chk (inb v2_1 512) <| chk (inb (v2_1 + (1 : Int32)) 512) <| chk (inb (v2_1 + (2 : Int32)) 512) <| nm (((((t_bytes v2_1.toNatClampNeg) * (37 : Int32)) + ((t_bytes (v2_1 + (1 : Int32)).toNatClampNeg) * (101 : Int32))) + (t_bytes (v2_1 + (2 : Int32)).toNatClampNeg)) &&& (255 : Int32)) fun y1 => chk (inb y1 256) <| chk (inb v2_1 512) <| nm (upd t_below1 v2_1.toNatClampNeg (t_bucket2 y1.toNatClampNeg)) fun t_below3 => chk (inb y1 256) <| nm (upd t_bucket2 y1.toNatClampNeg v2_1) fun t_bucket4 => nm (v2_1 + Int32.ofInt (1)) fun y2 => rec y2 t_below3 t_bucket4)
def L_Matches_link_15 (F : Nat) (t_bytes : Nat → Int32) (x1 : Int32) : Nat → Int32 → (Nat → Int32) → (Nat → Int32) → Option (Int32 × (Nat → Int32) × (Nat → Int32))
  | 0 => fun _ _ _ => none
  | f + 1 => fun v2_1 t_below1 t_bucket2 => B_Matches_link_15 F t_bytes x1 (L_Matches_link_15 F t_bytes x1 f) v2_1 t_below1 t_bucket2
def m_Matches_link (F : Nat) (t_below t_bucket t_bytes : Nat → Int32) (x1 : Int32) : Option (Int32 × (Nat → Int32) × (Nat → Int32)) :=
bnd1 (m_JA_fill2 F 256 t_bucket (-1 : Int32)) fun t_bucket1 =>
bnd3 (L_Matches_link_15 F t_bytes x1 F (0 : Int32) t_below t_bucket1) fun v2_3 t_below4 t_bucket5 =>
some ((0 : Int32), t_below4, t_bucket5)
def m_Plan_restart (F : Nat) (t_distances_count t_literals_count : Nat → Int32) : Option (Int32 × Int32 × (Nat → Int32) × (Nat → Int32)) :=
bnd1 (m_JA_fill2 F 286 t_literals_count (0 : Int32)) fun t_literals_count1 =>
bnd1 (m_JA_fill2 F 30 t_distances_count (0 : Int32)) fun t_distances_count1 =>
chk (inb (256 : Int32) 286) <| nm (upd t_literals_count1 (256 : Int32).toNatClampNeg (1 : Int32)) fun t_literals_count2 => some ((0 : Int32), (0 : Int32), t_distances_count1, t_literals_count2)
def m_Plan_weighStored (F : Nat) (x1 : Int32) : Option (Int32 × Int32) :=
nm ((42 : Int32) + ((8 : Int32) * x1)) fun y1 => some ((0 : Int32), y1)
def m_Matches_sameThree (F : Nat) (t_bytes : Nat → Int32) (x1 x2 : Int32) : Option (Int32) :=
chk (inb x1 512) <| chk (inb x2 512) <| (if (t_bytes x1.toNatClampNeg) = (t_bytes x2.toNatClampNeg) then
chk (inb (x1 + (1 : Int32)) 512) <| chk (inb (x2 + (1 : Int32)) 512) <| (if (t_bytes (x1 + (1 : Int32)).toNatClampNeg) = (t_bytes (x2 + (1 : Int32)).toNatClampNeg) then
chk (inb (x1 + (2 : Int32)) 512) <| chk (inb (x2 + (2 : Int32)) 512) <| (if (t_bytes (x1 + (2 : Int32)).toNatClampNeg) = (t_bytes (x2 + (2 : Int32)).toNatClampNeg) then
some (1 : Int32)
else
some (0 : Int32))
else
some (0 : Int32))
else
some (0 : Int32))
def B_Matches_sameBytes_30 (F : Nat) (t_bytes : Nat → Int32) (x1 x2 x4 : Int32) (rec : Int32 → Option (Int32)) (v5_1 : Int32) : Option (Int32) :=
(if x4 ≤ v5_1 then
some v5_1
else
chk (inb (x1 + v5_1) 512) <| chk (inb (x2 + v5_1) 512) <| (if (t_bytes (x1 + v5_1).toNatClampNeg) = (t_bytes (x2 + v5_1).toNatClampNeg) then
nm (v5_1 + Int32.ofInt (1)) fun y1 => rec y1
else
some v5_1))
def L_Matches_sameBytes_30 (F : Nat) (t_bytes : Nat → Int32) (x1 x2 x4 : Int32) : Nat → Int32 → Option (Int32)
  | 0 => fun _ => none
  | f + 1 => fun v5_1 => B_Matches_sameBytes_30 F t_bytes x1 x2 x4 (L_Matches_sameBytes_30 F t_bytes x1 x2 x4 f) v5_1
def m_Matches_sameBytes (F : Nat) (t_bytes : Nat → Int32) (x1 x2 x3 x4 : Int32) : Option (Int32) :=
(if x4 ≤ x3 then
some (0 : Int32)
else
chk (inb (x1 + x3) 512) <| chk (inb (x2 + x3) 512) <| (if (t_bytes (x1 + x3).toNatClampNeg) = (t_bytes (x2 + x3).toNatClampNeg) then
bnd1 (L_Matches_sameBytes_30 F t_bytes x1 x2 x4 F (3 : Int32)) fun v5_3 =>
some v5_3
else
some (0 : Int32)))
def m_DE_matchToken (F : Nat) (x0 x1 : Int32) : Option (Int32) :=
some ((x0 <<< ((16 : Int32) &&& 31)) ||| x1)
def B_Matches_longestAt_20 (F : Nat) (t_below t_bytes : Nat → Int32) (x1 x2 x3 : Int32) (rec : Int32 → Int32 → Int32 → Int32 → Int32 → Option (Int32 × Int32 × Int32 × Int32 × Int32)) (v4_1 v5_1 v6_1 v7_1 v8_1 : Int32) : Option (Int32 × Int32 × Int32 × Int32 × Int32) :=
(if x1 ≤ v8_1 then
some (v4_1, v5_1, v6_1, v7_1, v8_1)
else
(if v7_1 < (0 : Int32) then
some (v4_1, v5_1, v6_1, v7_1, v8_1)
else
(if x3 ≤ v6_1 then
some (v4_1, v5_1, v6_1, v7_1, v8_1)
else
bnd1 (m_Matches_sameThree F t_bytes v7_1 x1) fun r1 =>
bnd3 (if r1 = (0 : Int32) then
some (v4_1, v5_1, v6_1)
else
nm (v6_1 + Int32.ofInt (1)) fun y2 => bnd1 (m_Matches_sameBytes F t_bytes v7_1 x1 v4_1 x2) fun r2 =>
(if r2 ≤ v4_1 then
some (v4_1, v5_1, y2)
else
nm (x1 - v7_1) fun y3 => some (r2, y3, y2))) fun z1 z2 z3 =>
chk (inb v7_1 512) <| nm (t_below v7_1.toNatClampNeg) fun y4 => nm (v8_1 + Int32.ofInt (1)) fun y5 => rec z1 z2 z3 y4 y5)))
def L_Matches_longestAt_20 (F : Nat) (t_below t_bytes : Nat → Int32) (x1 x2 x3 : Int32) : Nat → Int32 → Int32 → Int32 → Int32 → Int32 → Option (Int32 × Int32 × Int32 × Int32 × Int32)
  | 0 => fun _ _ _ _ _ => none
  | f + 1 => fun v4_1 v5_1 v6_1 v7_1 v8_1 => B_Matches_longestAt_20 F t_below t_bytes x1 x2 x3 (L_Matches_longestAt_20 F t_below t_bytes x1 x2 x3 f) v4_1 v5_1 v6_1 v7_1 v8_1
def m_Matches_longestAt (F : Nat) (t_below t_bytes : Nat → Int32) (t_steps x1 x2 x3 : Int32) : Option (Int32 × Int32) :=
chk (inb x1 512) <| nm (t_below x1.toNatClampNeg) fun y1 => bnd5 (L_Matches_longestAt_20 F t_below t_bytes x1 x2 x3 F (0 : Int32) (0 : Int32) (0 : Int32) y1 (0 : Int32)) fun v4_3 v5_3 v6_3 v7_3 v8_3 =>
nm (t_steps + v6_3) fun y6 => bnd1 (m_DE_matchToken F v4_3 v5_3) fun r3 =>
some (r3, y6)
def B_Matches_find_3 (F : Nat) (t_below t_bytes : Nat → Int32) (x2 x3 : Int32) (rec : Int32 → Int32 → (Nat → Int32) → Option (Int32 × Int32 × (Nat → Int32))) (v4_1 t_steps_1 : Int32) (t_found1 : Nat → Int32) : Option (Int32 × Int32 × (Nat → Int32)) :=
(if x2 ≤ v4_1 then
some (v4_1, t_steps_1, t_found1)
else
bnd2 (if x2 < (v4_1 + (3 : Int32)) then
some ((0 : Int32), t_steps_1)
else
bnd2 (m_Matches_longestAt F t_below t_bytes t_steps_1 v4_1 (imin (258 : Int32) (x2 - v4_1)) x3) fun r1 t_steps_3 =>
some (r1, t_steps_3)) fun z1 z2 =>
chk (inb v4_1 512) <| nm (upd t_found1 v4_1.toNatClampNeg z1) fun t_found3 => nm (v4_1 + Int32.ofInt (1)) fun y1 => rec y1 z2 t_found3)
def L_Matches_find_3 (F : Nat) (t_below t_bytes : Nat → Int32) (x2 x3 : Int32) : Nat → Int32 → Int32 → (Nat → Int32) → Option (Int32 × Int32 × (Nat → Int32))
  | 0 => fun _ _ _ => none
  | f + 1 => fun v4_1 t_steps_1 t_found1 => B_Matches_find_3 F t_below t_bytes x2 x3 (L_Matches_find_3 F t_below t_bytes x2 x3 f) v4_1 t_steps_1 t_found1
def m_Matches_find (F : Nat) (t_below t_bytes t_found : Nat → Int32) (t_steps x1 x2 x3 : Int32) : Option (Int32 × (Nat → Int32)) :=
bnd3 (L_Matches_find_3 F t_below t_bytes x2 x3 F x1 t_steps t_found) fun v4_3 t_steps_4 t_found4 =>
some (t_steps_4, t_found4)
def m_DE_tokenLength (F : Nat) (x0 : Int32) : Option (Int32) :=
some (rx_us x0 (16 : Int32))
def m_Matches_lengthAt (F : Nat) (t_found : Nat → Int32) (x1 : Int32) : Option (Int32) :=
chk (inb x1 512) <| bnd1 (m_DE_tokenLength F (t_found x1.toNatClampNeg)) fun r1 =>
some r1
def B_Cutter_chooseByMatches_2 (F : Nat) (t_effort : Int32) (t_matches_found : Nat → Int32) (x2 : Int32) (rec : Int32 → (Nat → Int32) → Option (Int32 × (Nat → Int32))) (v3_1 : Int32) (t_lengthTaken1 : Nat → Int32) : Option (Int32 × (Nat → Int32)) :=
(if x2 ≤ v3_1 then
some (v3_1, t_lengthTaken1)
else
bnd1 (m_Matches_lengthAt F t_matches_found v3_1) fun r1 =>
bnd1 (if t_effort < (4 : Int32) then
some (0 : Int32)
else
(if x2 ≤ (v3_1 + (1 : Int32)) then
some (0 : Int32)
else
bnd1 (m_Matches_lengthAt F t_matches_found (v3_1 + (1 : Int32))) fun r2 =>
(if r2 ≤ r1 then
some (0 : Int32)
else
some (1 : Int32)))) fun z1 =>
bnd1 (if z1 = (0 : Int32) then
some (imax (1 : Int32) r1)
else
some (1 : Int32)) fun z2 =>
chk (inb v3_1 512) <| nm (upd t_lengthTaken1 v3_1.toNatClampNeg z2) fun t_lengthTaken3 => nm (v3_1 + Int32.ofInt (1)) fun y1 => rec y1 t_lengthTaken3)
def L_Cutter_chooseByMatches_2 (F : Nat) (t_effort : Int32) (t_matches_found : Nat → Int32) (x2 : Int32) : Nat → Int32 → (Nat → Int32) → Option (Int32 × (Nat → Int32))
  | 0 => fun _ _ => none
  | f + 1 => fun v3_1 t_lengthTaken1 => B_Cutter_chooseByMatches_2 F t_effort t_matches_found x2 (L_Cutter_chooseByMatches_2 F t_effort t_matches_found x2 f) v3_1 t_lengthTaken1
def m_Cutter_chooseByMatches (F : Nat) (t_effort : Int32) (t_lengthTaken t_matches_found : Nat → Int32) (x1 x2 : Int32) : Option ((Nat → Int32)) :=
bnd2 (L_Cutter_chooseByMatches_2 F t_effort t_matches_found x2 F x1 t_lengthTaken) fun v3_3 t_lengthTaken4 =>
some t_lengthTaken4
def B_DE_lengthSymbol_2 (F : Nat) (x0 : Int32) (rec : Int32 → Option (Int32)) (v1_1 : Int32) : Option (Int32) :=
(if (nI (tn 0)) ≤ (v1_1 + (1 : Int32)) then
some v1_1
else
chk (inb (v1_1 + (1 : Int32)) (tn 0)) <| (if x0 < (tb 0 (v1_1 + (1 : Int32)).toNatClampNeg) then
some v1_1
else
nm (v1_1 + Int32.ofInt (1)) fun y1 => rec y1))
def L_DE_lengthSymbol_2 (F : Nat) (x0 : Int32) : Nat → Int32 → Option (Int32)
  | 0 => fun _ => none
  | f + 1 => fun v1_1 => B_DE_lengthSymbol_2 F x0 (L_DE_lengthSymbol_2 F x0 f) v1_1
def m_DE_lengthSymbol (F : Nat) (x0 : Int32) : Option (Int32) :=
bnd1 (L_DE_lengthSymbol_2 F x0 F (0 : Int32)) fun v1_3 =>
some ((257 : Int32) + v1_3)
def m_DE_tokenDistance (F : Nat) (x0 : Int32) : Option (Int32) :=
some (x0 &&& (65535 : Int32))
def B_DE_distanceSymbol_2 (F : Nat) (x0 : Int32) (rec : Int32 → Option (Int32)) (v1_1 : Int32) : Option (Int32) :=
(if (nI (tn 2)) ≤ (v1_1 + (1 : Int32)) then
some v1_1
else
chk (inb (v1_1 + (1 : Int32)) (tn 2)) <| (if x0 < (tb 2 (v1_1 + (1 : Int32)).toNatClampNeg) then
some v1_1
else
nm (v1_1 + Int32.ofInt (1)) fun y1 => rec y1))
def L_DE_distanceSymbol_2 (F : Nat) (x0 : Int32) : Nat → Int32 → Option (Int32)
  | 0 => fun _ => none
  | f + 1 => fun v1_1 => B_DE_distanceSymbol_2 F x0 (L_DE_distanceSymbol_2 F x0 f) v1_1
def m_DE_distanceSymbol (F : Nat) (x0 : Int32) : Option (Int32) :=
bnd1 (L_DE_distanceSymbol_2 F x0 F (0 : Int32)) fun v1_3 =>
some v1_3
def m_Plan_addToken (F : Nat) (t_distances_count t_literals_count : Nat → Int32) (t_matches t_size : Int32) (t_token : Nat → Int32) (x1 : Int32) : Option (Int32 × Int32 × (Nat → Int32) × (Nat → Int32) × (Nat → Int32)) :=
(if t_size < (nI 512) then
chk (inb t_size 512) <| nm (upd t_token t_size.toNatClampNeg x1) fun t_token1 => nm (t_size + (1 : Int32)) fun y1 => bnd1 (m_DE_tokenLength F x1) fun r1 =>
(if r1 = (0 : Int32) then
chk (inb (x1 &&& (255 : Int32)) 286) <| chk (inb (x1 &&& (255 : Int32)) 286) <| nm (upd t_literals_count (x1 &&& (255 : Int32)).toNatClampNeg ((t_literals_count (x1 &&& (255 : Int32)).toNatClampNeg) + (1 : Int32))) fun t_literals_count1 => some (y1, t_matches, t_distances_count, t_literals_count1, t_token1)
else
nm (t_matches + (1 : Int32)) fun y2 => bnd1 (m_DE_lengthSymbol F r1) fun r2 =>
chk (inb r2 286) <| chk (inb r2 286) <| nm (upd t_literals_count r2.toNatClampNeg ((t_literals_count r2.toNatClampNeg) + (1 : Int32))) fun t_literals_count2 => bnd1 (m_DE_tokenDistance F x1) fun r3 =>
bnd1 (m_DE_distanceSymbol F r3) fun r4 =>
chk (inb r4 30) <| chk (inb r4 30) <| nm (upd t_distances_count r4.toNatClampNeg ((t_distances_count r4.toNatClampNeg) + (1 : Int32))) fun t_distances_count1 => some (y1, y2, t_distances_count1, t_literals_count2, t_token1))
else
some (t_size, t_matches, t_distances_count, t_literals_count, t_token))
def m_Matches_distanceAt (F : Nat) (t_found : Nat → Int32) (x1 : Int32) : Option (Int32) :=
chk (inb x1 512) <| bnd1 (m_DE_tokenDistance F (t_found x1.toNatClampNeg)) fun r1 =>
some r1
def B_Cutter_addTokens_7 (F : Nat) (t_bytes t_lengthTaken t_matches_found : Nat → Int32) (x3 : Int32) (rec : Int32 → Int32 → Int32 → (Nat → Int32) → (Nat → Int32) → (Nat → Int32) → Option (Int32 × Int32 × Int32 × (Nat → Int32) × (Nat → Int32) × (Nat → Int32))) (v5_1 p1_size_2 p1_matches_2 : Int32) (p1_distances_count2 p1_literals_count2 p1_token1 : Nat → Int32) : Option (Int32 × Int32 × Int32 × (Nat → Int32) × (Nat → Int32) × (Nat → Int32)) :=
(if x3 ≤ v5_1 then
some (v5_1, p1_size_2, p1_matches_2, p1_distances_count2, p1_literals_count2, p1_token1)
else
chk (inb v5_1 512) <| nm (imax (1 : Int32) (t_lengthTaken v5_1.toNatClampNeg)) fun y1 => bnd1 (if y1 = (1 : Int32) then
chk (inb v5_1 512) <| some (t_bytes v5_1.toNatClampNeg)
else
bnd1 (m_Matches_distanceAt F t_matches_found v5_1) fun r1 =>
bnd1 (m_DE_matchToken F y1 r1) fun r2 =>
some r2) fun z1 =>
bnd5 (m_Plan_addToken F p1_distances_count2 p1_literals_count2 p1_matches_2 p1_size_2 p1_token1 z1) fun p1_size_4 p1_matches_4 p1_distances_count4 p1_literals_count4 p1_token3 =>
nm (v5_1 + y1) fun y2 => rec y2 p1_size_4 p1_matches_4 p1_distances_count4 p1_literals_count4 p1_token3)
def L_Cutter_addTokens_7 (F : Nat) (t_bytes t_lengthTaken t_matches_found : Nat → Int32) (x3 : Int32) : Nat → Int32 → Int32 → Int32 → (Nat → Int32) → (Nat → Int32) → (Nat → Int32) → Option (Int32 × Int32 × Int32 × (Nat → Int32) × (Nat → Int32) × (Nat → Int32))
  | 0 => fun _ _ _ _ _ _ => none
  | f + 1 => fun v5_1 p1_size_2 p1_matches_2 p1_distances_count2 p1_literals_count2 p1_token1 => B_Cutter_addTokens_7 F t_bytes t_lengthTaken t_matches_found x3 (L_Cutter_addTokens_7 F t_bytes t_lengthTaken t_matches_found x3 f) v5_1 p1_size_2 p1_matches_2 p1_distances_count2 p1_literals_count2 p1_token1
def m_Cutter_addTokens (F : Nat) (p1_distances_count p1_literals_count p1_token t_bytes t_lengthTaken t_matches_found : Nat → Int32) (x2 x3 : Int32) : Option (Int32 × Int32 × (Nat → Int32) × (Nat → Int32) × (Nat → Int32)) :=
bnd4 (m_Plan_restart F p1_distances_count p1_literals_count) fun p1_size_1 p1_matches_1 p1_distances_count1 p1_literals_count1 =>
bnd6 (L_Cutter_addTokens_7 F t_bytes t_lengthTaken t_matches_found x3 F x2 p1_size_1 p1_matches_1 p1_distances_count1 p1_literals_count1 p1_token) fun v5_3 p1_size_5 p1_matches_5 p1_distances_count5 p1_literals_count5 p1_token4 =>
some (p1_size_5, p1_matches_5, p1_distances_count5, p1_literals_count5, p1_token4)
def B_Joiner_sort_28 (F : Nat) (n_p1 : Nat) (p1 : Nat → Int32) (v3_1 : Int32) (rec : Int32 → (Nat → Int32) → Option (Int32 × (Nat → Int32))) (v4_1 : Int32) (t_order4 : Nat → Int32) : Option (Int32 × (Nat → Int32)) :=
(if v4_1 ≤ (0 : Int32) then
some (v4_1, t_order4)
else
chk (inb (v4_1 - (1 : Int32)) 286) <| chk (inb (t_order4 (v4_1 - (1 : Int32)).toNatClampNeg) n_p1) <| chk (inb v3_1 n_p1) <| (if (p1 (t_order4 (v4_1 - (1 : Int32)).toNatClampNeg).toNatClampNeg) ≤ (p1 v3_1.toNatClampNeg) then
some (v4_1, t_order4)
else
chk (inb (v4_1 - (1 : Int32)) 286) <| chk (inb v4_1 286) <| nm (upd t_order4 v4_1.toNatClampNeg (t_order4 (v4_1 - (1 : Int32)).toNatClampNeg)) fun t_order6 => nm (v4_1 + Int32.ofInt (-1)) fun y1 => rec y1 t_order6))
def L_Joiner_sort_28 (F : Nat) (n_p1 : Nat) (p1 : Nat → Int32) (v3_1 : Int32) : Nat → Int32 → (Nat → Int32) → Option (Int32 × (Nat → Int32))
  | 0 => fun _ _ => none
  | f + 1 => fun v4_1 t_order4 => B_Joiner_sort_28 F n_p1 p1 v3_1 (L_Joiner_sort_28 F n_p1 p1 v3_1 f) v4_1 t_order4
def B_Joiner_sort_4 (F : Nat) (n_p1 : Nat) (p1 : Nat → Int32) (rec : Int32 → Int32 → (Nat → Int32) → Option (Int32 × Int32 × (Nat → Int32))) (v2_1 v3_1 : Int32) (t_order1 : Nat → Int32) : Option (Int32 × Int32 × (Nat → Int32)) :=
(if (nI n_p1) ≤ v3_1 then
some (v2_1, v3_1, t_order1)
else
(if (nI 286) ≤ v2_1 then
some (v2_1, v3_1, t_order1)
else
chk (inb v3_1 n_p1) <| bnd2 (if (p1 v3_1.toNatClampNeg) ≤ (0 : Int32) then
some (v2_1, t_order1)
else
bnd2 (L_Joiner_sort_28 F n_p1 p1 v3_1 F v2_1 t_order1) fun v4_3 t_order7 =>
chk (inb v4_3 286) <| nm (upd t_order7 v4_3.toNatClampNeg v3_1) fun t_order8 => nm (v2_1 + Int32.ofInt (1)) fun y2 => some (y2, t_order8)) fun z1 t_order3 =>
nm (v3_1 + Int32.ofInt (1)) fun y3 => rec z1 y3 t_order3))
def L_Joiner_sort_4 (F : Nat) (n_p1 : Nat) (p1 : Nat → Int32) : Nat → Int32 → Int32 → (Nat → Int32) → Option (Int32 × Int32 × (Nat → Int32))
  | 0 => fun _ _ _ => none
  | f + 1 => fun v2_1 v3_1 t_order1 => B_Joiner_sort_4 F n_p1 p1 (L_Joiner_sort_4 F n_p1 p1 f) v2_1 v3_1 t_order1
def m_Joiner_sort (F : Nat) (n_p1 : Nat) (p1 t_order : Nat → Int32) : Option (Int32 × (Nat → Int32)) :=
bnd3 (L_Joiner_sort_4 F n_p1 p1 F (0 : Int32) (0 : Int32) t_order) fun v2_3 v3_3 t_order9 =>
some (v2_3, t_order9)
def B_Joiner_joinInOrder_2 (F : Nat) (n_p1 : Nat) (p1 t_order : Nat → Int32) (x2 : Int32) (rec : Int32 → (Nat → Int32) → Option (Int32 × (Nat → Int32))) (v3_1 : Int32) (t_weight1 : Nat → Int32) : Option (Int32 × (Nat → Int32)) :=
(if x2 ≤ v3_1 then
some (v3_1, t_weight1)
else
chk (inb v3_1 286) <| chk (inb (t_order v3_1.toNatClampNeg) n_p1) <| chk (inb v3_1 572) <| nm (upd t_weight1 v3_1.toNatClampNeg (p1 (t_order v3_1.toNatClampNeg).toNatClampNeg)) fun t_weight3 => nm (v3_1 + Int32.ofInt (1)) fun y1 => rec y1 t_weight3)
def L_Joiner_joinInOrder_2 (F : Nat) (n_p1 : Nat) (p1 t_order : Nat → Int32) (x2 : Int32) : Nat → Int32 → (Nat → Int32) → Option (Int32 × (Nat → Int32))
  | 0 => fun _ _ => none
  | f + 1 => fun v3_1 t_weight1 => B_Joiner_joinInOrder_2 F n_p1 p1 t_order x2 (L_Joiner_joinInOrder_2 F n_p1 p1 t_order x2 f) v3_1 t_weight1
def B_Joiner_joinInOrder_56 (F : Nat) (v5_1 x2 : Int32) (rec : Int32 → Int32 → Int32 → (Nat → Int32) → (Nat → Int32) → Option (Int32 × Int32 × Int32 × (Nat → Int32) × (Nat → Int32))) (v3_6 v4_3 v6_1 : Int32) (t_above3 t_weight8 : Nat → Int32) : Option (Int32 × Int32 × Int32 × (Nat → Int32) × (Nat → Int32)) :=
(if (2 : Int32) ≤ v6_1 then
some (v3_6, v4_3, v6_1, t_above3, t_weight8)
else
bnd3 (if x2 ≤ v3_6 then
nm (v4_3 + Int32.ofInt (1)) fun y2 => some (v3_6, y2, v4_3)
else
(if v5_1 ≤ v4_3 then
nm (v3_6 + Int32.ofInt (1)) fun y3 => some (y3, v4_3, v3_6)
else
chk (inb v3_6 572) <| chk (inb v4_3 572) <| (if (t_weight8 v4_3.toNatClampNeg) < (t_weight8 v3_6.toNatClampNeg) then
nm (v4_3 + Int32.ofInt (1)) fun y4 => some (v3_6, y4, v4_3)
else
nm (v3_6 + Int32.ofInt (1)) fun y5 => some (y5, v4_3, v3_6)))) fun z1 z2 z3 =>
chk (inb z3 572) <| nm (upd t_above3 z3.toNatClampNeg v5_1) fun t_above5 => chk (inb v5_1 572) <| chk (inb z3 572) <| chk (inb v5_1 572) <| nm (upd t_weight8 v5_1.toNatClampNeg ((t_weight8 v5_1.toNatClampNeg) + (t_weight8 z3.toNatClampNeg))) fun t_weight10 => nm (v6_1 + Int32.ofInt (1)) fun y6 => rec z1 z2 y6 t_above5 t_weight10)
def L_Joiner_joinInOrder_56 (F : Nat) (v5_1 x2 : Int32) : Nat → Int32 → Int32 → Int32 → (Nat → Int32) → (Nat → Int32) → Option (Int32 × Int32 × Int32 × (Nat → Int32) × (Nat → Int32))
  | 0 => fun _ _ _ _ _ => none
  | f + 1 => fun v3_6 v4_3 v6_1 t_above3 t_weight8 => B_Joiner_joinInOrder_56 F v5_1 x2 (L_Joiner_joinInOrder_56 F v5_1 x2 f) v3_6 v4_3 v6_1 t_above3 t_weight8
def B_Joiner_joinInOrder_35 (F : Nat) (x2 : Int32) (rec : Int32 → Int32 → Int32 → (Nat → Int32) → (Nat → Int32) → Option (Int32 × Int32 × Int32 × (Nat → Int32) × (Nat → Int32))) (v3_4 v4_1 v5_1 : Int32) (t_above1 t_weight5 : Nat → Int32) : Option (Int32 × Int32 × Int32 × (Nat → Int32) × (Nat → Int32)) :=
(if (((2 : Int32) * x2) - (1 : Int32)) ≤ v5_1 then
some (v3_4, v4_1, v5_1, t_above1, t_weight5)
else
chk (inb v5_1 572) <| nm (upd t_weight5 v5_1.toNatClampNeg (0 : Int32)) fun t_weight7 => bnd5 (L_Joiner_joinInOrder_56 F v5_1 x2 F v3_4 v4_1 (0 : Int32) t_above1 t_weight7) fun v3_8 v4_5 v6_3 t_above6 t_weight11 =>
nm (v5_1 + Int32.ofInt (1)) fun y7 => rec v3_8 v4_5 y7 t_above6 t_weight11)
def L_Joiner_joinInOrder_35 (F : Nat) (x2 : Int32) : Nat → Int32 → Int32 → Int32 → (Nat → Int32) → (Nat → Int32) → Option (Int32 × Int32 × Int32 × (Nat → Int32) × (Nat → Int32))
  | 0 => fun _ _ _ _ _ => none
  | f + 1 => fun v3_4 v4_1 v5_1 t_above1 t_weight5 => B_Joiner_joinInOrder_35 F x2 (L_Joiner_joinInOrder_35 F x2 f) v3_4 v4_1 v5_1 t_above1 t_weight5
def m_Joiner_joinInOrder (F : Nat) (n_p1 : Nat) (p1 t_above t_order t_weight : Nat → Int32) (x2 : Int32) : Option ((Nat → Int32) × (Nat → Int32)) :=
bnd2 (L_Joiner_joinInOrder_2 F n_p1 p1 t_order x2 F (0 : Int32) t_weight) fun v3_3 t_weight4 =>
bnd5 (L_Joiner_joinInOrder_35 F x2 F (0 : Int32) x2 x2 t_above t_weight4) fun v3_9 v4_6 v5_3 t_above7 t_weight12 =>
some (t_above7, t_weight12)
def B_Joiner_tellDepths_17 (F : Nat) (n_p1 : Nat) (t_above t_order : Nat → Int32) (x2 : Int32) (rec : Int32 → (Nat → Int32) → (Nat → Int32) → Option (Int32 × (Nat → Int32) × (Nat → Int32))) (v3_1 : Int32) (p2 t_weight2 : Nat → Int32) : Option (Int32 × (Nat → Int32) × (Nat → Int32)) :=
(if v3_1 < (0 : Int32) then
some (v3_1, p2, t_weight2)
else
chk (inb v3_1 572) <| chk (inb (t_above v3_1.toNatClampNeg) 572) <| chk (inb v3_1 572) <| nm (upd t_weight2 v3_1.toNatClampNeg ((t_weight2 (t_above v3_1.toNatClampNeg).toNatClampNeg) + (1 : Int32))) fun t_weight4 => bnd1 (if x2 ≤ v3_1 then
some p2
else
chk (inb v3_1 286) <| chk (inb v3_1 572) <| chk (inb (t_order v3_1.toNatClampNeg) n_p1) <| nm (upd p2 (t_order v3_1.toNatClampNeg).toNatClampNeg (t_weight4 v3_1.toNatClampNeg)) fun p5 => some p5) fun p4 =>
nm (v3_1 + Int32.ofInt (-1)) fun y2 => rec y2 p4 t_weight4)
def L_Joiner_tellDepths_17 (F : Nat) (n_p1 : Nat) (t_above t_order : Nat → Int32) (x2 : Int32) : Nat → Int32 → (Nat → Int32) → (Nat → Int32) → Option (Int32 × (Nat → Int32) × (Nat → Int32))
  | 0 => fun _ _ _ => none
  | f + 1 => fun v3_1 p2 t_weight2 => B_Joiner_tellDepths_17 F n_p1 t_above t_order x2 (L_Joiner_tellDepths_17 F n_p1 t_above t_order x2 f) v3_1 p2 t_weight2
def m_Joiner_tellDepths (F : Nat) (n_p1 : Nat) (p1 t_above t_order t_weight : Nat → Int32) (x2 : Int32) : Option ((Nat → Int32) × (Nat → Int32)) :=
chk (inb (((2 : Int32) * x2) - (2 : Int32)) 572) <| nm (upd t_weight (((2 : Int32) * x2) - (2 : Int32)).toNatClampNeg (0 : Int32)) fun t_weight1 => nm (((2 : Int32) * x2) - (3 : Int32)) fun y1 => bnd3 (L_Joiner_tellDepths_17 F n_p1 t_above t_order x2 F y1 p1 t_weight1) fun v3_3 p6 t_weight5 =>
some (p6, t_weight5)
def m_Joiner_join (F : Nat) (n_p1 : Nat) (p1_count p1_length t_above t_order t_weight : Nat → Int32) : Option ((Nat → Int32) × (Nat → Int32) × (Nat → Int32) × (Nat → Int32)) :=
bnd1 (m_JA_fill2 F n_p1 p1_length (0 : Int32)) fun p1_length1 =>
bnd2 (m_Joiner_sort F n_p1 p1_count t_order) fun r1 t_order1 =>
bnd1 (if r1 = (1 : Int32) then
chk (inb (0 : Int32) 286) <| chk (inb (t_order1 (0 : Int32).toNatClampNeg) n_p1) <| nm (upd p1_length1 (t_order1 (0 : Int32).toNatClampNeg).toNatClampNeg (1 : Int32)) fun p1_length3 => some p1_length3
else
some p1_length1) fun p1_length2 =>
(if r1 ≤ (1 : Int32) then
some (p1_length2, t_above, t_order1, t_weight)
else
bnd2 (m_Joiner_joinInOrder F n_p1 p1_count t_above t_order1 t_weight r1) fun t_above1 t_weight1 =>
bnd2 (m_Joiner_tellDepths F n_p1 p1_length2 t_above1 t_order1 t_weight1 r1) fun p1_length4 t_weight2 =>
some (p1_length4, t_above1, t_order1, t_weight2))
def m_LengthRow_tellSymbol (F : Nat) (t_code_count t_row : Nat → Int32) (t_size x1 x2 : Int32) : Option (Int32 × (Nat → Int32) × (Nat → Int32)) :=
(if (nI 316) ≤ t_size then
some (t_size, t_code_count, t_row)
else
(if x1 < (0 : Int32) then
some (t_size, t_code_count, t_row)
else
(if (19 : Int32) ≤ x1 then
some (t_size, t_code_count, t_row)
else
chk (inb t_size 316) <| nm (upd t_row t_size.toNatClampNeg ((x2 <<< ((8 : Int32) &&& 31)) ||| x1)) fun t_row1 => nm (t_size + (1 : Int32)) fun y1 => chk (inb x1 19) <| chk (inb x1 19) <| nm (upd t_code_count x1.toNatClampNeg ((t_code_count x1.toNatClampNeg) + (1 : Int32))) fun t_code_count1 => some (y1, t_code_count1, t_row1))))
def B_LengthRow_tellEqual_6 (F : Nat)  (rec : Int32 → Int32 → (Nat → Int32) → (Nat → Int32) → Option (Int32 × Int32 × (Nat → Int32) × (Nat → Int32))) (v3_1 t_size_1 : Int32) (t_code_count2 t_row2 : Nat → Int32) : Option (Int32 × Int32 × (Nat → Int32) × (Nat → Int32)) :=
(if v3_1 < (11 : Int32) then
some (v3_1, t_size_1, t_code_count2, t_row2)
else
nm (imin v3_1 (138 : Int32)) fun y1 => bnd3 (m_LengthRow_tellSymbol F t_code_count2 t_row2 t_size_1 (18 : Int32) (y1 - (11 : Int32))) fun t_size_3 t_code_count4 t_row4 =>
nm (v3_1 - y1) fun y2 => rec y2 t_size_3 t_code_count4 t_row4)
def L_LengthRow_tellEqual_6 (F : Nat)  : Nat → Int32 → Int32 → (Nat → Int32) → (Nat → Int32) → Option (Int32 × Int32 × (Nat → Int32) × (Nat → Int32))
  | 0 => fun _ _ _ _ => none
  | f + 1 => fun v3_1 t_size_1 t_code_count2 t_row2 => B_LengthRow_tellEqual_6 F  (L_LengthRow_tellEqual_6 F  f) v3_1 t_size_1 t_code_count2 t_row2
def B_LengthRow_tellEqual_72 (F : Nat)  (rec : Int32 → Int32 → (Nat → Int32) → (Nat → Int32) → Option (Int32 × Int32 × (Nat → Int32) × (Nat → Int32))) (v3_4 t_size_7 : Int32) (t_code_count8 t_row8 : Nat → Int32) : Option (Int32 × Int32 × (Nat → Int32) × (Nat → Int32)) :=
(if v3_4 < (3 : Int32) then
some (v3_4, t_size_7, t_code_count8, t_row8)
else
nm (imin v3_4 (6 : Int32)) fun y4 => bnd3 (m_LengthRow_tellSymbol F t_code_count8 t_row8 t_size_7 (16 : Int32) (y4 - (3 : Int32))) fun t_size_9 t_code_count10 t_row10 =>
nm (v3_4 - y4) fun y5 => rec y5 t_size_9 t_code_count10 t_row10)
def L_LengthRow_tellEqual_72 (F : Nat)  : Nat → Int32 → Int32 → (Nat → Int32) → (Nat → Int32) → Option (Int32 × Int32 × (Nat → Int32) × (Nat → Int32))
  | 0 => fun _ _ _ _ => none
  | f + 1 => fun v3_4 t_size_7 t_code_count8 t_row8 => B_LengthRow_tellEqual_72 F  (L_LengthRow_tellEqual_72 F  f) v3_4 t_size_7 t_code_count8 t_row8
def B_LengthRow_tellEqual_106 (F : Nat) (x1 z1 : Int32) (rec : Int32 → Int32 → (Nat → Int32) → (Nat → Int32) → Option (Int32 × Int32 × (Nat → Int32) × (Nat → Int32))) (v4_1 t_size_11 : Int32) (t_code_count12 t_row12 : Nat → Int32) : Option (Int32 × Int32 × (Nat → Int32) × (Nat → Int32)) :=
(if z1 ≤ v4_1 then
some (v4_1, t_size_11, t_code_count12, t_row12)
else
bnd3 (m_LengthRow_tellSymbol F t_code_count12 t_row12 t_size_11 x1 (0 : Int32)) fun t_size_13 t_code_count14 t_row14 =>
nm (v4_1 + Int32.ofInt (1)) fun y6 => rec y6 t_size_13 t_code_count14 t_row14)
def L_LengthRow_tellEqual_106 (F : Nat) (x1 z1 : Int32) : Nat → Int32 → Int32 → (Nat → Int32) → (Nat → Int32) → Option (Int32 × Int32 × (Nat → Int32) × (Nat → Int32))
  | 0 => fun _ _ _ _ => none
  | f + 1 => fun v4_1 t_size_11 t_code_count12 t_row12 => B_LengthRow_tellEqual_106 F x1 z1 (L_LengthRow_tellEqual_106 F x1 z1 f) v4_1 t_size_11 t_code_count12 t_row12
def m_LengthRow_tellEqual (F : Nat) (t_code_count t_row : Nat → Int32) (t_size x1 x2 : Int32) : Option (Int32 × (Nat → Int32) × (Nat → Int32)) :=
bnd4 (if x1 = (0 : Int32) then
bnd4 (L_LengthRow_tellEqual_6 F  F x2 t_size t_code_count t_row) fun v3_3 t_size_4 t_code_count5 t_row5 =>
(if v3_3 < (3 : Int32) then
some (v3_3, t_size_4, t_code_count5, t_row5)
else
bnd3 (m_LengthRow_tellSymbol F t_code_count5 t_row5 t_size_4 (17 : Int32) (v3_3 - (3 : Int32))) fun t_size_5 t_code_count6 t_row6 =>
some ((0 : Int32), t_size_5, t_code_count6, t_row6))
else
(if x2 ≤ (0 : Int32) then
some (x2, t_size, t_code_count, t_row)
else
bnd3 (m_LengthRow_tellSymbol F t_code_count t_row t_size x1 (0 : Int32)) fun t_size_6 t_code_count7 t_row7 =>
nm (x2 + Int32.ofInt (-1)) fun y3 => bnd4 (L_LengthRow_tellEqual_72 F  F y3 t_size_6 t_code_count7 t_row7) fun v3_6 t_size_10 t_code_count11 t_row11 =>
some (v3_6, t_size_10, t_code_count11, t_row11))) fun z1 z2 t_code_count1 t_row1 =>
bnd4 (L_LengthRow_tellEqual_106 F x1 z1 F (0 : Int32) z2 t_code_count1 t_row1) fun v4_3 t_size_14 t_code_count15 t_row15 =>
some (t_size_14, t_code_count15, t_row15)
def B_LengthRow_tellBoth_55 (F : Nat) (n_p1 n_p2 : Nat) (p1_length p2_length : Nat → Int32) (r1 y1 : Int32) (rec : Int32 → Int32 → Int32 → Int32 → (Nat → Int32) → (Nat → Int32) → Option (Int32 × Int32 × Int32 × Int32 × (Nat → Int32) × (Nat → Int32))) (v4_1 v5_1 v6_1 t_size_1 : Int32) (t_code_count2 t_row1 : Nat → Int32) : Option (Int32 × Int32 × Int32 × Int32 × (Nat → Int32) × (Nat → Int32)) :=
(if y1 ≤ v6_1 then
some (v4_1, v5_1, v6_1, t_size_1, t_code_count2, t_row1)
else
bnd1 (if r1 ≤ v6_1 then
chk (inb (v6_1 - r1) n_p2) <| some (p2_length (v6_1 - r1).toNatClampNeg)
else
chk (inb v6_1 n_p1) <| some (p1_length v6_1.toNatClampNeg)) fun z1 =>
bnd5 (if z1 = v5_1 then
some (v4_1, v5_1, t_size_1, t_code_count2, t_row1)
else
bnd3 (m_LengthRow_tellEqual F t_code_count2 t_row1 t_size_1 v5_1 v4_1) fun t_size_3 t_code_count5 t_row4 =>
some ((0 : Int32), z1, t_size_3, t_code_count5, t_row4)) fun z2 z3 z4 t_code_count4 t_row3 =>
nm (z2 + Int32.ofInt (1)) fun y2 => nm (v6_1 + Int32.ofInt (1)) fun y3 => rec y2 z3 y3 z4 t_code_count4 t_row3)
def L_LengthRow_tellBoth_55 (F : Nat) (n_p1 n_p2 : Nat) (p1_length p2_length : Nat → Int32) (r1 y1 : Int32) : Nat → Int32 → Int32 → Int32 → Int32 → (Nat → Int32) → (Nat → Int32) → Option (Int32 × Int32 × Int32 × Int32 × (Nat → Int32) × (Nat → Int32))
  | 0 => fun _ _ _ _ _ _ => none
  | f + 1 => fun v4_1 v5_1 v6_1 t_size_1 t_code_count2 t_row1 => B_LengthRow_tellBoth_55 F n_p1 n_p2 p1_length p2_length r1 y1 (L_LengthRow_tellBoth_55 F n_p1 n_p2 p1_length p2_length r1 y1 f) v4_1 v5_1 v6_1 t_size_1 t_code_count2 t_row1
def m_LengthRow_tellBoth (F : Nat) (n_p1 n_p2 : Nat) (p1_length p2_length t_code_count t_row : Nat → Int32) : Option (Int32 × Int32 × Int32 × (Nat → Int32) × (Nat → Int32)) :=
bnd1 (m_Code_usedLengths F n_p1 p1_length (257 : Int32)) fun r1 =>
bnd1 (m_Code_usedLengths F n_p2 p2_length (1 : Int32)) fun r2 =>
bnd1 (m_JA_fill2 F 19 t_code_count (0 : Int32)) fun t_code_count1 =>
nm (r1 + r2) fun y1 => bnd6 (L_LengthRow_tellBoth_55 F n_p1 n_p2 p1_length p2_length r1 y1 F (0 : Int32) (-1 : Int32) (0 : Int32) (0 : Int32) t_code_count1 t_row) fun v4_3 v5_3 v6_3 t_size_4 t_code_count6 t_row5 =>
bnd3 (m_LengthRow_tellEqual F t_code_count6 t_row5 t_size_4 v5_3 v4_3) fun t_size_5 t_code_count7 t_row6 =>
some (t_size_5, r1, r2, t_code_count7, t_row6)
def B_LengthRow_makeCode_10 (F : Nat)  (rec : Int32 → (Nat → Int32) → (Nat → Int32) → (Nat → Int32) → (Nat → Int32) → (Nat → Int32) → Option (Int32 × (Nat → Int32) × (Nat → Int32) × (Nat → Int32) × (Nat → Int32) × (Nat → Int32))) (v2_1 : Int32) (p1_above2 p1_order2 p1_weight2 t_code_count1 t_code_length2 : Nat → Int32) : Option (Int32 × (Nat → Int32) × (Nat → Int32) × (Nat → Int32) × (Nat → Int32) × (Nat → Int32)) :=
(if (10 : Int32) ≤ v2_1 then
some (v2_1, p1_above2, p1_order2, p1_weight2, t_code_count1, t_code_length2)
else
bnd1 (m_Code_longest F 19 t_code_length2) fun r1 =>
(if r1 ≤ (7 : Int32) then
some (v2_1, p1_above2, p1_order2, p1_weight2, t_code_count1, t_code_length2)
else
bnd1 (m_Code_halveCounts F 19 t_code_count1) fun t_code_count3 =>
bnd4 (m_Joiner_join F 19 t_code_count3 t_code_length2 p1_above2 p1_order2 p1_weight2) fun t_code_length4 p1_above4 p1_order4 p1_weight4 =>
nm (v2_1 + Int32.ofInt (1)) fun y1 => rec y1 p1_above4 p1_order4 p1_weight4 t_code_count3 t_code_length4))
def L_LengthRow_makeCode_10 (F : Nat)  : Nat → Int32 → (Nat → Int32) → (Nat → Int32) → (Nat → Int32) → (Nat → Int32) → (Nat → Int32) → Option (Int32 × (Nat → Int32) × (Nat → Int32) × (Nat → Int32) × (Nat → Int32) × (Nat → Int32))
  | 0 => fun _ _ _ _ _ _ => none
  | f + 1 => fun v2_1 p1_above2 p1_order2 p1_weight2 t_code_count1 t_code_length2 => B_LengthRow_makeCode_10 F  (L_LengthRow_makeCode_10 F  f) v2_1 p1_above2 p1_order2 p1_weight2 t_code_count1 t_code_length2
def B_LengthRow_makeCode_55 (F : Nat) (t_code_length5 : Nat → Int32) (rec : Int32 → Option (Int32)) (t_toldOfCode_1 : Int32) : Option (Int32) :=
(if t_toldOfCode_1 ≤ (4 : Int32) then
some t_toldOfCode_1
else
chk (inb (t_toldOfCode_1 - (1 : Int32)) (tn 4)) <| chk (inb (tb 4 (t_toldOfCode_1 - (1 : Int32)).toNatClampNeg) 19) <| (if (t_code_length5 (tb 4 (t_toldOfCode_1 - (1 : Int32)).toNatClampNeg).toNatClampNeg) = (0 : Int32) then
nm (t_toldOfCode_1 - (1 : Int32)) fun y2 => rec y2
else
some t_toldOfCode_1))
def L_LengthRow_makeCode_55 (F : Nat) (t_code_length5 : Nat → Int32) : Nat → Int32 → Option (Int32)
  | 0 => fun _ => none
  | f + 1 => fun t_toldOfCode_1 => B_LengthRow_makeCode_55 F t_code_length5 (L_LengthRow_makeCode_55 F t_code_length5 f) t_toldOfCode_1
def m_LengthRow_makeCode (F : Nat) (p1_above p1_order p1_weight t_code_count t_code_length : Nat → Int32) : Option ((Nat → Int32) × (Nat → Int32) × (Nat → Int32) × Int32 × (Nat → Int32) × (Nat → Int32)) :=
bnd4 (m_Joiner_join F 19 t_code_count t_code_length p1_above p1_order p1_weight) fun t_code_length1 p1_above1 p1_order1 p1_weight1 =>
bnd6 (L_LengthRow_makeCode_10 F  F (0 : Int32) p1_above1 p1_order1 p1_weight1 t_code_count t_code_length1) fun v2_3 p1_above5 p1_order5 p1_weight5 t_code_count4 t_code_length5 =>
bnd1 (L_LengthRow_makeCode_55 F t_code_length5 F (19 : Int32)) fun t_toldOfCode_3 =>
some (p1_above5, p1_order5, p1_weight5, t_toldOfCode_3, t_code_count4, t_code_length5)
def m_DE_literalExtra (F : Nat) (x0 : Int32) : Option (Int32) :=
nm ((x0 - (256 : Int32)) - (1 : Int32)) fun y1 => (if y1 < (0 : Int32) then
some (0 : Int32)
else
(if (nI (tn 1)) ≤ y1 then
some (0 : Int32)
else
chk (inb y1 (tn 1)) <| some (tb 1 y1.toNatClampNeg)))
def B_Plan_extraBits_6 (F : Nat) (t_literals_count : Nat → Int32) (rec : Int32 → Int32 → Option (Int32 × Int32)) (v1_1 v2_1 : Int32) : Option (Int32 × Int32) :=
(if (286 : Int32) ≤ v2_1 then
some (v1_1, v2_1)
else
chk (inb v2_1 286) <| bnd1 (m_DE_literalExtra F v2_1) fun r1 =>
nm (v1_1 + ((t_literals_count v2_1.toNatClampNeg) * r1)) fun y1 => nm (v2_1 + Int32.ofInt (1)) fun y2 => rec y1 y2)
def L_Plan_extraBits_6 (F : Nat) (t_literals_count : Nat → Int32) : Nat → Int32 → Int32 → Option (Int32 × Int32)
  | 0 => fun _ _ => none
  | f + 1 => fun v1_1 v2_1 => B_Plan_extraBits_6 F t_literals_count (L_Plan_extraBits_6 F t_literals_count f) v1_1 v2_1
def B_Plan_extraBits_38 (F : Nat) (t_distances_count : Nat → Int32) (rec : Int32 → Int32 → Option (Int32 × Int32)) (v1_4 v2_4 : Int32) : Option (Int32 × Int32) :=
(if (30 : Int32) ≤ v2_4 then
some (v1_4, v2_4)
else
chk (inb v2_4 30) <| chk (inb v2_4 (tn 3)) <| nm (v1_4 + ((t_distances_count v2_4.toNatClampNeg) * (tb 3 v2_4.toNatClampNeg))) fun y3 => nm (v2_4 + Int32.ofInt (1)) fun y4 => rec y3 y4)
def L_Plan_extraBits_38 (F : Nat) (t_distances_count : Nat → Int32) : Nat → Int32 → Int32 → Option (Int32 × Int32)
  | 0 => fun _ _ => none
  | f + 1 => fun v1_4 v2_4 => B_Plan_extraBits_38 F t_distances_count (L_Plan_extraBits_38 F t_distances_count f) v1_4 v2_4
def m_Plan_extraBits (F : Nat) (t_distances_count t_literals_count : Nat → Int32) : Option (Int32) :=
bnd2 (L_Plan_extraBits_6 F t_literals_count F (0 : Int32) (257 : Int32)) fun v1_3 v2_3 =>
bnd2 (L_Plan_extraBits_38 F t_distances_count F v1_3 (0 : Int32)) fun v1_6 v2_6 =>
some v1_6
def m_DE_fixedLength (F : Nat) (x0 : Int32) : Option (Int32) :=
(if (144 : Int32) ≤ x0 then
(if (256 : Int32) ≤ x0 then
(if (280 : Int32) ≤ x0 then
some (8 : Int32)
else
some (7 : Int32))
else
some (9 : Int32))
else
some (8 : Int32))
def B_Plan_fixedBits_9 (F : Nat) (t_literals_count : Nat → Int32) (rec : Int32 → Int32 → Option (Int32 × Int32)) (v1_1 v2_1 : Int32) : Option (Int32 × Int32) :=
(if (286 : Int32) ≤ v2_1 then
some (v1_1, v2_1)
else
chk (inb v2_1 286) <| bnd1 (m_DE_fixedLength F v2_1) fun r1 =>
nm (v1_1 + ((t_literals_count v2_1.toNatClampNeg) * r1)) fun y2 => nm (v2_1 + Int32.ofInt (1)) fun y3 => rec y2 y3)
def L_Plan_fixedBits_9 (F : Nat) (t_literals_count : Nat → Int32) : Nat → Int32 → Int32 → Option (Int32 × Int32)
  | 0 => fun _ _ => none
  | f + 1 => fun v1_1 v2_1 => B_Plan_fixedBits_9 F t_literals_count (L_Plan_fixedBits_9 F t_literals_count f) v1_1 v2_1
def m_Plan_fixedBits (F : Nat) (t_literals_count : Nat → Int32) (t_matches : Int32) : Option (Int32) :=
nm ((5 : Int32) * t_matches) fun y1 => bnd2 (L_Plan_fixedBits_9 F t_literals_count F y1 (0 : Int32)) fun v1_3 v2_3 =>
some v1_3
def m_Plan_takeFewer (F : Nat) (t_bits t_kind x1 x2 : Int32) : Option (Int32 × Int32) :=
(if t_bits ≤ x2 then
some (t_kind, t_bits)
else
some (x1, x2))
def m_LengthRow_symbolAt (F : Nat) (t_row : Nat → Int32) (x1 : Int32) : Option (Int32) :=
chk (inb x1 316) <| some ((t_row x1.toNatClampNeg) &&& (255 : Int32))
def m_DE_repeatExtra (F : Nat) (x0 : Int32) : Option (Int32) :=
(if x0 = (16 : Int32) then
some (2 : Int32)
else
(if x0 = (17 : Int32) then
some (3 : Int32)
else
(if x0 = (18 : Int32) then
some (7 : Int32)
else
some (0 : Int32))))
def B_LengthRow_bits_9 (F : Nat) (t_code_length t_row : Nat → Int32) (t_size : Int32) (rec : Int32 → Int32 → Option (Int32 × Int32)) (v1_1 v2_1 : Int32) : Option (Int32 × Int32) :=
(if t_size ≤ v2_1 then
some (v1_1, v2_1)
else
bnd1 (m_LengthRow_symbolAt F t_row v2_1) fun r1 =>
chk (inb r1 19) <| bnd1 (m_LengthRow_symbolAt F t_row v2_1) fun r2 =>
bnd1 (m_DE_repeatExtra F r2) fun r3 =>
nm (v1_1 + ((t_code_length r1.toNatClampNeg) + r3)) fun y2 => nm (v2_1 + Int32.ofInt (1)) fun y3 => rec y2 y3)
def L_LengthRow_bits_9 (F : Nat) (t_code_length t_row : Nat → Int32) (t_size : Int32) : Nat → Int32 → Int32 → Option (Int32 × Int32)
  | 0 => fun _ _ => none
  | f + 1 => fun v1_1 v2_1 => B_LengthRow_bits_9 F t_code_length t_row t_size (L_LengthRow_bits_9 F t_code_length t_row t_size f) v1_1 v2_1
def m_LengthRow_bits (F : Nat) (t_code_length t_row : Nat → Int32) (t_size t_toldOfCode : Int32) : Option (Int32) :=
nm ((3 : Int32) * t_toldOfCode) fun y1 => bnd2 (L_LengthRow_bits_9 F t_code_length t_row t_size F y1 (0 : Int32)) fun v1_3 v2_3 =>
some v1_3
def B_Plan_ownBits_4 (F : Nat) (t_literals_count t_literals_length : Nat → Int32) (rec : Int32 → Int32 → Option (Int32 × Int32)) (v1_1 v2_1 : Int32) : Option (Int32 × Int32) :=
(if (286 : Int32) ≤ v2_1 then
some (v1_1, v2_1)
else
chk (inb v2_1 286) <| chk (inb v2_1 286) <| nm (v1_1 + ((t_literals_count v2_1.toNatClampNeg) * (t_literals_length v2_1.toNatClampNeg))) fun y1 => nm (v2_1 + Int32.ofInt (1)) fun y2 => rec y1 y2)
def L_Plan_ownBits_4 (F : Nat) (t_literals_count t_literals_length : Nat → Int32) : Nat → Int32 → Int32 → Option (Int32 × Int32)
  | 0 => fun _ _ => none
  | f + 1 => fun v1_1 v2_1 => B_Plan_ownBits_4 F t_literals_count t_literals_length (L_Plan_ownBits_4 F t_literals_count t_literals_length f) v1_1 v2_1
def B_Plan_ownBits_41 (F : Nat) (t_distances_count t_distances_length : Nat → Int32) (rec : Int32 → Int32 → Option (Int32 × Int32)) (v1_4 v2_4 : Int32) : Option (Int32 × Int32) :=
(if (30 : Int32) ≤ v2_4 then
some (v1_4, v2_4)
else
chk (inb v2_4 30) <| chk (inb v2_4 30) <| nm (v1_4 + ((t_distances_count v2_4.toNatClampNeg) * (t_distances_length v2_4.toNatClampNeg))) fun y3 => nm (v2_4 + Int32.ofInt (1)) fun y4 => rec y3 y4)
def L_Plan_ownBits_41 (F : Nat) (t_distances_count t_distances_length : Nat → Int32) : Nat → Int32 → Int32 → Option (Int32 × Int32)
  | 0 => fun _ _ => none
  | f + 1 => fun v1_4 v2_4 => B_Plan_ownBits_41 F t_distances_count t_distances_length (L_Plan_ownBits_41 F t_distances_count t_distances_length f) v1_4 v2_4
def m_Plan_ownBits (F : Nat) (t_distances_count t_distances_length t_literals_count t_literals_length : Nat → Int32) : Option (Int32) :=
bnd2 (L_Plan_ownBits_4 F t_literals_count t_literals_length F (0 : Int32) (0 : Int32)) fun v1_3 v2_3 =>
bnd2 (L_Plan_ownBits_41 F t_distances_count t_distances_length F v1_3 (0 : Int32)) fun v1_6 v2_6 =>
some v1_6
def m_Plan_weigh (F : Nat) (p1_above p1_order p1_weight p2_code_count p2_code_length p2_row t_distances_count t_distances_length t_literals_count t_literals_length : Nat → Int32) (t_matches x3 : Int32) : Option ((Nat → Int32) × (Nat → Int32) × (Nat → Int32) × Int32 × Int32 × Int32 × Int32 × (Nat → Int32) × (Nat → Int32) × (Nat → Int32) × Int32 × Int32 × (Nat → Int32) × (Nat → Int32)) :=
bnd4 (m_Joiner_join F 286 t_literals_count t_literals_length p1_above p1_order p1_weight) fun t_literals_length1 p1_above1 p1_order1 p1_weight1 =>
bnd4 (m_Joiner_join F 30 t_distances_count t_distances_length p1_above1 p1_order1 p1_weight1) fun t_distances_length1 p1_above2 p1_order2 p1_weight2 =>
bnd5 (m_LengthRow_tellBoth F 286 30 t_literals_length1 t_distances_length1 p2_code_count p2_row) fun p2_size_1 p2_literals_1 p2_distances_1 p2_code_count1 p2_row1 =>
bnd6 (m_LengthRow_makeCode F p1_above2 p1_order2 p1_weight2 p2_code_count1 p2_code_length) fun p1_above3 p1_order3 p1_weight3 p2_toldOfCode_1 p2_code_count2 p2_code_length1 =>
bnd2 (m_Plan_weighStored F x3) fun t_kind_1 t_bits_1 =>
bnd1 (m_Plan_extraBits F t_distances_count t_literals_count) fun r1 =>
bnd1 (m_Plan_fixedBits F t_literals_count t_matches) fun r2 =>
bnd2 (m_Plan_takeFewer F t_bits_1 t_kind_1 (1 : Int32) (((3 : Int32) + r1) + r2)) fun t_kind_2 t_bits_2 =>
bnd1 (m_LengthRow_bits F p2_code_length1 p2_row1 p2_size_1 p2_toldOfCode_1) fun r3 =>
bnd1 (m_Plan_extraBits F t_distances_count t_literals_count) fun r4 =>
bnd1 (m_Plan_ownBits F t_distances_count t_distances_length1 t_literals_count t_literals_length1) fun r5 =>
bnd2 (m_Plan_takeFewer F t_bits_2 t_kind_2 (2 : Int32) ((((17 : Int32) + r3) + r4) + r5)) fun t_kind_3 t_bits_3 =>
some (p1_above3, p1_order3, p1_weight3, p2_size_1, p2_literals_1, p2_distances_1, p2_toldOfCode_1, p2_code_count2, p2_code_length1, p2_row1, t_kind_3, t_bits_3, t_distances_length1, t_literals_length1)
def m_Prices_priceOf (F : Nat) (x0 x1 : Int32) : Option (Int32) :=
(if x0 = (0 : Int32) then
some x1
else
some x0)
def m_JA_rangeCheck (F : Nat) (x0 x1 x2 : Int32) : Option (Unit) :=
(if x1 ≤ x2 then
(if (0 : Int32) ≤ x1 then
(if x2 ≤ x0 then
some ()
else
none)
else
none)
else
none)
def B_JA_fill4_10 (F : Nat) (n_p0 : Nat) (x2 x3 : Int32) (rec : Int32 → (Nat → Int32) → Option (Int32 × (Nat → Int32))) (v4_1 : Int32) (p1 : Nat → Int32) : Option (Int32 × (Nat → Int32)) :=
(if x2 ≤ v4_1 then
some (v4_1, p1)
else
chk (inb v4_1 n_p0) <| nm (upd p1 v4_1.toNatClampNeg x3) fun p3 => nm (v4_1 + Int32.ofInt (1)) fun y1 => rec y1 p3)
def L_JA_fill4_10 (F : Nat) (n_p0 : Nat) (x2 x3 : Int32) : Nat → Int32 → (Nat → Int32) → Option (Int32 × (Nat → Int32))
  | 0 => fun _ _ => none
  | f + 1 => fun v4_1 p1 => B_JA_fill4_10 F n_p0 x2 x3 (L_JA_fill4_10 F n_p0 x2 x3 f) v4_1 p1
def m_JA_fill4 (F : Nat) (n_p0 : Nat) (p0 : Nat → Int32) (x1 x2 x3 : Int32) : Option ((Nat → Int32)) :=
bnd0 (m_JA_rangeCheck F (nI n_p0) x1 x2) fun _ =>
bnd2 (L_JA_fill4_10 F n_p0 x2 x3 F x1 p0) fun v4_3 p4 =>
some p4
def B_Prices_takeFrom_2 (F : Nat) (p1_literals_length : Nat → Int32) (rec : Int32 → (Nat → Int32) → Option (Int32 × (Nat → Int32))) (v2_1 : Int32) (t_ofLiteral1 : Nat → Int32) : Option (Int32 × (Nat → Int32)) :=
(if (nI 256) ≤ v2_1 then
some (v2_1, t_ofLiteral1)
else
chk (inb v2_1 286) <| bnd1 (m_Prices_priceOf F (p1_literals_length v2_1.toNatClampNeg) (12 : Int32)) fun r1 =>
chk (inb v2_1 256) <| nm (upd t_ofLiteral1 v2_1.toNatClampNeg r1) fun t_ofLiteral3 => nm (v2_1 + Int32.ofInt (1)) fun y1 => rec y1 t_ofLiteral3)
def L_Prices_takeFrom_2 (F : Nat) (p1_literals_length : Nat → Int32) : Nat → Int32 → (Nat → Int32) → Option (Int32 × (Nat → Int32))
  | 0 => fun _ _ => none
  | f + 1 => fun v2_1 t_ofLiteral1 => B_Prices_takeFrom_2 F p1_literals_length (L_Prices_takeFrom_2 F p1_literals_length f) v2_1 t_ofLiteral1
def B_Prices_takeFrom_48 (F : Nat) (p1_literals_length : Nat → Int32) (rec : Int32 → Int32 → (Nat → Int32) → Option (Int32 × Int32 × (Nat → Int32))) (v2_4 v3_1 : Int32) (t_ofLength1 : Nat → Int32) : Option (Int32 × Int32 × (Nat → Int32)) :=
(if v3_1 < (0 : Int32) then
some (v2_4, v3_1, t_ofLength1)
else
chk (inb ((257 : Int32) + v3_1) 286) <| bnd1 (m_Prices_priceOf F (p1_literals_length ((257 : Int32) + v3_1).toNatClampNeg) (12 : Int32)) fun r2 =>
chk (inb v3_1 (tn 1)) <| nm (r2 + (tb 1 v3_1.toNatClampNeg)) fun y3 => chk (inb v3_1 (tn 0)) <| bnd1 (m_JA_fill4 F 259 t_ofLength1 (tb 0 v3_1.toNatClampNeg) v2_4 y3) fun t_ofLength3 =>
chk (inb v3_1 (tn 0)) <| nm (tb 0 v3_1.toNatClampNeg) fun y4 => nm (v3_1 + Int32.ofInt (-1)) fun y5 => rec y4 y5 t_ofLength3)
def L_Prices_takeFrom_48 (F : Nat) (p1_literals_length : Nat → Int32) : Nat → Int32 → Int32 → (Nat → Int32) → Option (Int32 × Int32 × (Nat → Int32))
  | 0 => fun _ _ _ => none
  | f + 1 => fun v2_4 v3_1 t_ofLength1 => B_Prices_takeFrom_48 F p1_literals_length (L_Prices_takeFrom_48 F p1_literals_length f) v2_4 v3_1 t_ofLength1
def B_Prices_takeFrom_107 (F : Nat) (p1_distances_length : Nat → Int32) (rec : Int32 → (Nat → Int32) → Option (Int32 × (Nat → Int32))) (v3_4 : Int32) (t_ofDistance1 : Nat → Int32) : Option (Int32 × (Nat → Int32)) :=
(if (nI 30) ≤ v3_4 then
some (v3_4, t_ofDistance1)
else
chk (inb v3_4 30) <| bnd1 (m_Prices_priceOf F (p1_distances_length v3_4.toNatClampNeg) (6 : Int32)) fun r3 =>
chk (inb v3_4 (tn 3)) <| chk (inb v3_4 30) <| nm (upd t_ofDistance1 v3_4.toNatClampNeg (r3 + (tb 3 v3_4.toNatClampNeg))) fun t_ofDistance3 => nm (v3_4 + Int32.ofInt (1)) fun y6 => rec y6 t_ofDistance3)
def L_Prices_takeFrom_107 (F : Nat) (p1_distances_length : Nat → Int32) : Nat → Int32 → (Nat → Int32) → Option (Int32 × (Nat → Int32))
  | 0 => fun _ _ => none
  | f + 1 => fun v3_4 t_ofDistance1 => B_Prices_takeFrom_107 F p1_distances_length (L_Prices_takeFrom_107 F p1_distances_length f) v3_4 t_ofDistance1
def m_Prices_takeFrom (F : Nat) (p1_distances_length p1_literals_length t_ofDistance t_ofLength t_ofLiteral : Nat → Int32) : Option ((Nat → Int32) × (Nat → Int32) × (Nat → Int32)) :=
bnd2 (L_Prices_takeFrom_2 F p1_literals_length F (0 : Int32) t_ofLiteral) fun v2_3 t_ofLiteral4 =>
nm ((nI (tn 0)) - (1 : Int32)) fun y2 => bnd3 (L_Prices_takeFrom_48 F p1_literals_length F (259 : Int32) y2 t_ofLength) fun v2_6 v3_3 t_ofLength4 =>
bnd2 (L_Prices_takeFrom_107 F p1_distances_length F (0 : Int32) t_ofDistance) fun v3_6 t_ofDistance4 =>
some (t_ofDistance4, t_ofLength4, t_ofLiteral4)
def B_Prices_choose_76 (F : Nat) (n_p2 : Nat) (r1 : Int32) (t_least2 t_ofLength : Nat → Int32) (v5_1 y3 : Int32) (rec : Int32 → Int32 → (Nat → Int32) → Option (Int32 × Int32 × (Nat → Int32))) (v6_1 v9_1 : Int32) (p5 : Nat → Int32) : Option (Int32 × Int32 × (Nat → Int32)) :=
(if r1 < v9_1 then
some (v6_1, v9_1, p5)
else
chk (inb v9_1 259) <| chk (inb (v5_1 + v9_1) 513) <| nm ((y3 + (t_ofLength v9_1.toNatClampNeg)) + (t_least2 (v5_1 + v9_1).toNatClampNeg)) fun y4 => bnd2 (if v6_1 ≤ y4 then
some (v6_1, p5)
else
chk (inb v5_1 n_p2) <| nm (upd p5 v5_1.toNatClampNeg v9_1) fun p8 => some (y4, p8)) fun z1 p7 =>
nm (v9_1 + Int32.ofInt (1)) fun y5 => rec z1 y5 p7)
def L_Prices_choose_76 (F : Nat) (n_p2 : Nat) (r1 : Int32) (t_least2 t_ofLength : Nat → Int32) (v5_1 y3 : Int32) : Nat → Int32 → Int32 → (Nat → Int32) → Option (Int32 × Int32 × (Nat → Int32))
  | 0 => fun _ _ _ => none
  | f + 1 => fun v6_1 v9_1 p5 => B_Prices_choose_76 F n_p2 r1 t_least2 t_ofLength v5_1 y3 (L_Prices_choose_76 F n_p2 r1 t_least2 t_ofLength v5_1 y3 f) v6_1 v9_1 p5
def B_Prices_choose_14 (F : Nat) (n_p2 : Nat) (p1_bytes p1_found t_ofDistance t_ofLength t_ofLiteral : Nat → Int32) (x3 : Int32) (rec : Int32 → (Nat → Int32) → (Nat → Int32) → Option (Int32 × (Nat → Int32) × (Nat → Int32))) (v5_1 : Int32) (p1 t_least2 : Nat → Int32) : Option (Int32 × (Nat → Int32) × (Nat → Int32)) :=
(if v5_1 < x3 then
some (v5_1, p1, t_least2)
else
chk (inb v5_1 512) <| chk (inb (p1_bytes v5_1.toNatClampNeg) 256) <| chk (inb (v5_1 + (1 : Int32)) 513) <| nm ((t_ofLiteral (p1_bytes v5_1.toNatClampNeg).toNatClampNeg) + (t_least2 (v5_1 + (1 : Int32)).toNatClampNeg)) fun y2 => chk (inb v5_1 n_p2) <| nm (upd p1 v5_1.toNatClampNeg (1 : Int32)) fun p4 => bnd1 (m_Matches_lengthAt F p1_found v5_1) fun r1 =>
bnd1 (m_Matches_distanceAt F p1_found v5_1) fun r2 =>
bnd1 (m_DE_distanceSymbol F r2) fun r3 =>
chk (inb r3 30) <| nm (t_ofDistance r3.toNatClampNeg) fun y3 => bnd3 (L_Prices_choose_76 F n_p2 r1 t_least2 t_ofLength v5_1 y3 F y2 (3 : Int32) p4) fun v6_3 v9_3 p9 =>
chk (inb v5_1 513) <| nm (upd t_least2 v5_1.toNatClampNeg v6_3) fun t_least4 => nm (v5_1 + Int32.ofInt (-1)) fun y6 => rec y6 p9 t_least4)
def L_Prices_choose_14 (F : Nat) (n_p2 : Nat) (p1_bytes p1_found t_ofDistance t_ofLength t_ofLiteral : Nat → Int32) (x3 : Int32) : Nat → Int32 → (Nat → Int32) → (Nat → Int32) → Option (Int32 × (Nat → Int32) × (Nat → Int32))
  | 0 => fun _ _ _ => none
  | f + 1 => fun v5_1 p1 t_least2 => B_Prices_choose_14 F n_p2 p1_bytes p1_found t_ofDistance t_ofLength t_ofLiteral x3 (L_Prices_choose_14 F n_p2 p1_bytes p1_found t_ofDistance t_ofLength t_ofLiteral x3 f) v5_1 p1 t_least2
def m_Prices_choose (F : Nat) (n_p2 : Nat) (p1_bytes p1_found p2 t_least t_ofDistance t_ofLength t_ofLiteral : Nat → Int32) (x3 x4 : Int32) : Option ((Nat → Int32) × (Nat → Int32)) :=
chk (inb x4 513) <| nm (upd t_least x4.toNatClampNeg (0 : Int32)) fun t_least1 => nm (x4 - (1 : Int32)) fun y1 => bnd3 (L_Prices_choose_14 F n_p2 p1_bytes p1_found t_ofDistance t_ofLength t_ofLiteral x3 F y1 p2 t_least1) fun v5_3 p10 t_least5 =>
some (p10, t_least5)
def B_Cutter_tryBlock_80 (F : Nat) (t_bytes : Nat → Int32) (t_effort : Int32) (t_matches_found1 : Nat → Int32) (x1 x2 : Int32) (rec : Int32 → Int32 → Int32 → Int32 → Int32 → Int32 → (Nat → Int32) → (Nat → Int32) → (Nat → Int32) → (Nat → Int32) → (Nat → Int32) → (Nat → Int32) → (Nat → Int32) → (Nat → Int32) → (Nat → Int32) → (Nat → Int32) → (Nat → Int32) → (Nat → Int32) → (Nat → Int32) → Int32 → Int32 → Int32 → Int32 → (Nat → Int32) → (Nat → Int32) → (Nat → Int32) → Int32 → Int32 → Int32 → Int32 → (Nat → Int32) → (Nat → Int32) → (Nat → Int32) → (Nat → Int32) → (Nat → Int32) → Option (Int32 × Int32 × Int32 × Int32 × Int32 × Int32 × (Nat → Int32) × (Nat → Int32) × (Nat → Int32) × (Nat → Int32) × (Nat → Int32) × (Nat → Int32) × (Nat → Int32) × (Nat → Int32) × (Nat → Int32) × (Nat → Int32) × (Nat → Int32) × (Nat → Int32) × (Nat → Int32) × Int32 × Int32 × Int32 × Int32 × (Nat → Int32) × (Nat → Int32) × (Nat → Int32) × Int32 × Int32 × Int32 × Int32 × (Nat → Int32) × (Nat → Int32) × (Nat → Int32) × (Nat → Int32) × (Nat → Int32))) (v3_1 v4_1 t_hand_size_3 t_hand_matches_3 t_hand_kind_3 t_hand_bits_3 : Int32) (t_hand_distances_count3 t_hand_distances_length2 t_hand_literals_count3 t_hand_literals_length2 t_hand_token2 t_joiner_above2 t_joiner_order2 t_joiner_weight2 t_lengthTaken2 t_prices_least1 t_prices_ofDistance1 t_prices_ofLength1 t_prices_ofLiteral1 : Nat → Int32) (t_row_size_2 t_row_literals_2 t_row_distances_2 t_row_toldOfCode_2 : Int32) (t_row_code_count2 t_row_code_length2 t_row_row2 : Nat → Int32) (t_trial_size_1 t_trial_matches_1 t_trial_kind_1 t_trial_bits_1 : Int32) (t_trial_distances_count1 t_trial_distances_length1 t_trial_literals_count1 t_trial_literals_length1 t_trial_token1 : Nat → Int32) : Option (Int32 × Int32 × Int32 × Int32 × Int32 × Int32 × (Nat → Int32) × (Nat → Int32) × (Nat → Int32) × (Nat → Int32) × (Nat → Int32) × (Nat → Int32) × (Nat → Int32) × (Nat → Int32) × (Nat → Int32) × (Nat → Int32) × (Nat → Int32) × (Nat → Int32) × (Nat → Int32) × Int32 × Int32 × Int32 × Int32 × (Nat → Int32) × (Nat → Int32) × (Nat → Int32) × Int32 × Int32 × Int32 × Int32 × (Nat → Int32) × (Nat → Int32) × (Nat → Int32) × (Nat → Int32) × (Nat → Int32)) :=
(if (t_effort - (6 : Int32)) ≤ v4_1 then
some (v3_1, v4_1, t_hand_size_3, t_hand_matches_3, t_hand_kind_3, t_hand_bits_3, t_hand_distances_count3, t_hand_distances_length2, t_hand_literals_count3, t_hand_literals_length2, t_hand_token2, t_joiner_above2, t_joiner_order2, t_joiner_weight2, t_lengthTaken2, t_prices_least1, t_prices_ofDistance1, t_prices_ofLength1, t_prices_ofLiteral1, t_row_size_2, t_row_literals_2, t_row_distances_2, t_row_toldOfCode_2, t_row_code_count2, t_row_code_length2, t_row_row2, t_trial_size_1, t_trial_matches_1, t_trial_kind_1, t_trial_bits_1, t_trial_distances_count1, t_trial_distances_length1, t_trial_literals_count1, t_trial_literals_length1, t_trial_token1)
else
bnd3 (m_Prices_takeFrom F t_hand_distances_length2 t_hand_literals_length2 t_prices_ofDistance1 t_prices_ofLength1 t_prices_ofLiteral1) fun t_prices_ofDistance3 t_prices_ofLength3 t_prices_ofLiteral3 =>
bnd2 (m_Prices_choose F 512 t_bytes t_matches_found1 t_lengthTaken2 t_prices_least1 t_prices_ofDistance3 t_prices_ofLength3 t_prices_ofLiteral3 x1 x2) fun t_lengthTaken4 t_prices_least3 =>
bnd5 (m_Cutter_addTokens F t_trial_distances_count1 t_trial_literals_count1 t_trial_token1 t_bytes t_lengthTaken4 t_matches_found1 x1 x2) fun t_trial_size_3 t_trial_matches_3 t_trial_distances_count3 t_trial_literals_count3 t_trial_token3 =>
bnd14 (m_Plan_weigh F t_joiner_above2 t_joiner_order2 t_joiner_weight2 t_row_code_count2 t_row_code_length2 t_row_row2 t_trial_distances_count3 t_trial_distances_length1 t_trial_literals_count3 t_trial_literals_length1 t_trial_matches_3 (x2 - x1)) fun t_joiner_above4 t_joiner_order4 t_joiner_weight4 t_row_size_4 t_row_literals_4 t_row_distances_4 t_row_toldOfCode_4 t_row_code_count4 t_row_code_length4 t_row_row4 t_trial_kind_3 t_trial_bits_3 t_trial_distances_length3 t_trial_literals_length3 =>
(if t_trial_bits_3 < t_hand_bits_3 then
nm (v3_1 + Int32.ofInt (1)) fun y1 => nm (v4_1 + Int32.ofInt (1)) fun y2 => rec y1 y2 t_trial_size_3 t_trial_matches_3 t_trial_kind_3 t_trial_bits_3 t_trial_distances_count3 t_trial_distances_length3 t_trial_literals_count3 t_trial_literals_length3 t_trial_token3 t_joiner_above4 t_joiner_order4 t_joiner_weight4 t_lengthTaken4 t_prices_least3 t_prices_ofDistance3 t_prices_ofLength3 t_prices_ofLiteral3 t_row_size_4 t_row_literals_4 t_row_distances_4 t_row_toldOfCode_4 t_row_code_count4 t_row_code_length4 t_row_row4 t_hand_size_3 t_hand_matches_3 t_hand_kind_3 t_hand_bits_3 t_hand_distances_count3 t_hand_distances_length2 t_hand_literals_count3 t_hand_literals_length2 t_hand_token2
else
some (v3_1, v4_1, t_hand_size_3, t_hand_matches_3, t_hand_kind_3, t_hand_bits_3, t_hand_distances_count3, t_hand_distances_length2, t_hand_literals_count3, t_hand_literals_length2, t_hand_token2, t_joiner_above4, t_joiner_order4, t_joiner_weight4, t_lengthTaken4, t_prices_least3, t_prices_ofDistance3, t_prices_ofLength3, t_prices_ofLiteral3, t_row_size_4, t_row_literals_4, t_row_distances_4, t_row_toldOfCode_4, t_row_code_count4, t_row_code_length4, t_row_row4, t_trial_size_3, t_trial_matches_3, t_trial_kind_3, t_trial_bits_3, t_trial_distances_count3, t_trial_distances_length3, t_trial_literals_count3, t_trial_literals_length3, t_trial_token3)))
def L_Cutter_tryBlock_80 (F : Nat) (t_bytes : Nat → Int32) (t_effort : Int32) (t_matches_found1 : Nat → Int32) (x1 x2 : Int32) : Nat → Int32 → Int32 → Int32 → Int32 → Int32 → Int32 → (Nat → Int32) → (Nat → Int32) → (Nat → Int32) → (Nat → Int32) → (Nat → Int32) → (Nat → Int32) → (Nat → Int32) → (Nat → Int32) → (Nat → Int32) → (Nat → Int32) → (Nat → Int32) → (Nat → Int32) → (Nat → Int32) → Int32 → Int32 → Int32 → Int32 → (Nat → Int32) → (Nat → Int32) → (Nat → Int32) → Int32 → Int32 → Int32 → Int32 → (Nat → Int32) → (Nat → Int32) → (Nat → Int32) → (Nat → Int32) → (Nat → Int32) → Option (Int32 × Int32 × Int32 × Int32 × Int32 × Int32 × (Nat → Int32) × (Nat → Int32) × (Nat → Int32) × (Nat → Int32) × (Nat → Int32) × (Nat → Int32) × (Nat → Int32) × (Nat → Int32) × (Nat → Int32) × (Nat → Int32) × (Nat → Int32) × (Nat → Int32) × (Nat → Int32) × Int32 × Int32 × Int32 × Int32 × (Nat → Int32) × (Nat → Int32) × (Nat → Int32) × Int32 × Int32 × Int32 × Int32 × (Nat → Int32) × (Nat → Int32) × (Nat → Int32) × (Nat → Int32) × (Nat → Int32))
  | 0 => fun _ _ _ _ _ _ _ _ _ _ _ _ _ _ _ _ _ _ _ _ _ _ _ _ _ _ _ _ _ _ _ _ _ _ _ => none
  | f + 1 => fun v3_1 v4_1 t_hand_size_3 t_hand_matches_3 t_hand_kind_3 t_hand_bits_3 t_hand_distances_count3 t_hand_distances_length2 t_hand_literals_count3 t_hand_literals_length2 t_hand_token2 t_joiner_above2 t_joiner_order2 t_joiner_weight2 t_lengthTaken2 t_prices_least1 t_prices_ofDistance1 t_prices_ofLength1 t_prices_ofLiteral1 t_row_size_2 t_row_literals_2 t_row_distances_2 t_row_toldOfCode_2 t_row_code_count2 t_row_code_length2 t_row_row2 t_trial_size_1 t_trial_matches_1 t_trial_kind_1 t_trial_bits_1 t_trial_distances_count1 t_trial_distances_length1 t_trial_literals_count1 t_trial_literals_length1 t_trial_token1 => B_Cutter_tryBlock_80 F t_bytes t_effort t_matches_found1 x1 x2 (L_Cutter_tryBlock_80 F t_bytes t_effort t_matches_found1 x1 x2 f) v3_1 v4_1 t_hand_size_3 t_hand_matches_3 t_hand_kind_3 t_hand_bits_3 t_hand_distances_count3 t_hand_distances_length2 t_hand_literals_count3 t_hand_literals_length2 t_hand_token2 t_joiner_above2 t_joiner_order2 t_joiner_weight2 t_lengthTaken2 t_prices_least1 t_prices_ofDistance1 t_prices_ofLength1 t_prices_ofLiteral1 t_row_size_2 t_row_literals_2 t_row_distances_2 t_row_toldOfCode_2 t_row_code_count2 t_row_code_length2 t_row_row2 t_trial_size_1 t_trial_matches_1 t_trial_kind_1 t_trial_bits_1 t_trial_distances_count1 t_trial_distances_length1 t_trial_literals_count1 t_trial_literals_length1 t_trial_token1
def m_Cutter_tryBlock (F : Nat) (t_bytes : Nat → Int32) (t_effort : Int32) (t_hand_distances_count t_hand_distances_length t_hand_literals_count t_hand_literals_length t_hand_token t_joiner_above t_joiner_order t_joiner_weight t_lengthTaken t_matches_below t_matches_found : Nat → Int32) (t_matches_steps : Int32) (t_prices_least t_prices_ofDistance t_prices_ofLength t_prices_ofLiteral t_row_code_count t_row_code_length : Nat → Int32) (t_row_distances t_row_literals : Int32) (t_row_row : Nat → Int32) (t_row_size t_row_toldOfCode t_trial_bits : Int32) (t_trial_distances_count t_trial_distances_length : Nat → Int32) (t_trial_kind : Int32) (t_trial_literals_count t_trial_literals_length : Nat → Int32) (t_trial_matches t_trial_size : Int32) (t_trial_token : Nat → Int32) (x1 x2 : Int32) : Option (Int32 × Int32 × Int32 × Int32 × Int32 × (Nat → Int32) × (Nat → Int32) × (Nat → Int32) × (Nat → Int32) × (Nat → Int32) × (Nat → Int32) × (Nat → Int32) × (Nat → Int32) × (Nat → Int32) × Int32 × (Nat → Int32) × (Nat → Int32) × (Nat → Int32) × (Nat → Int32) × (Nat → Int32) × Int32 × Int32 × Int32 × Int32 × (Nat → Int32) × (Nat → Int32) × (Nat → Int32) × Int32 × Int32 × Int32 × Int32 × (Nat → Int32) × (Nat → Int32) × (Nat → Int32) × (Nat → Int32) × (Nat → Int32)) :=
(if t_effort = (0 : Int32) then
bnd4 (m_Plan_restart F t_hand_distances_count t_hand_literals_count) fun t_hand_size_1 t_hand_matches_1 t_hand_distances_count1 t_hand_literals_count1 =>
bnd2 (m_Plan_weighStored F (x2 - x1)) fun t_hand_kind_1 t_hand_bits_1 =>
some ((0 : Int32), t_hand_size_1, t_hand_matches_1, t_hand_kind_1, t_hand_bits_1, t_hand_distances_count1, t_hand_distances_length, t_hand_literals_count1, t_hand_literals_length, t_hand_token, t_joiner_above, t_joiner_order, t_joiner_weight, t_lengthTaken, t_matches_steps, t_matches_found, t_prices_least, t_prices_ofDistance, t_prices_ofLength, t_prices_ofLiteral, t_row_size, t_row_literals, t_row_distances, t_row_toldOfCode, t_row_code_count, t_row_code_length, t_row_row, t_trial_size, t_trial_matches, t_trial_kind, t_trial_bits, t_trial_distances_count, t_trial_distances_length, t_trial_literals_count, t_trial_literals_length, t_trial_token)
else
bnd2 (m_Matches_find F t_matches_below t_bytes t_matches_found t_matches_steps x1 x2 ((4 : Int32) * t_effort)) fun t_matches_steps_1 t_matches_found1 =>
bnd1 (m_Cutter_chooseByMatches F t_effort t_lengthTaken t_matches_found1 x1 x2) fun t_lengthTaken1 =>
bnd5 (m_Cutter_addTokens F t_hand_distances_count t_hand_literals_count t_hand_token t_bytes t_lengthTaken1 t_matches_found1 x1 x2) fun t_hand_size_2 t_hand_matches_2 t_hand_distances_count2 t_hand_literals_count2 t_hand_token1 =>
bnd14 (m_Plan_weigh F t_joiner_above t_joiner_order t_joiner_weight t_row_code_count t_row_code_length t_row_row t_hand_distances_count2 t_hand_distances_length t_hand_literals_count2 t_hand_literals_length t_hand_matches_2 (x2 - x1)) fun t_joiner_above1 t_joiner_order1 t_joiner_weight1 t_row_size_1 t_row_literals_1 t_row_distances_1 t_row_toldOfCode_1 t_row_code_count1 t_row_code_length1 t_row_row1 t_hand_kind_2 t_hand_bits_2 t_hand_distances_length1 t_hand_literals_length1 =>
bnd35 (L_Cutter_tryBlock_80 F t_bytes t_effort t_matches_found1 x1 x2 F (0 : Int32) (0 : Int32) t_hand_size_2 t_hand_matches_2 t_hand_kind_2 t_hand_bits_2 t_hand_distances_count2 t_hand_distances_length1 t_hand_literals_count2 t_hand_literals_length1 t_hand_token1 t_joiner_above1 t_joiner_order1 t_joiner_weight1 t_lengthTaken1 t_prices_least t_prices_ofDistance t_prices_ofLength t_prices_ofLiteral t_row_size_1 t_row_literals_1 t_row_distances_1 t_row_toldOfCode_1 t_row_code_count1 t_row_code_length1 t_row_row1 t_trial_size t_trial_matches t_trial_kind t_trial_bits t_trial_distances_count t_trial_distances_length t_trial_literals_count t_trial_literals_length t_trial_token) fun v3_3 v4_3 t_hand_size_5 t_hand_matches_5 t_hand_kind_5 t_hand_bits_5 t_hand_distances_count5 t_hand_distances_length4 t_hand_literals_count5 t_hand_literals_length4 t_hand_token4 t_joiner_above5 t_joiner_order5 t_joiner_weight5 t_lengthTaken5 t_prices_least4 t_prices_ofDistance4 t_prices_ofLength4 t_prices_ofLiteral4 t_row_size_5 t_row_literals_5 t_row_distances_5 t_row_toldOfCode_5 t_row_code_count5 t_row_code_length5 t_row_row5 t_trial_size_4 t_trial_matches_4 t_trial_kind_4 t_trial_bits_4 t_trial_distances_count4 t_trial_distances_length4 t_trial_literals_count4 t_trial_literals_length4 t_trial_token4 =>
some (v3_3, t_hand_size_5, t_hand_matches_5, t_hand_kind_5, t_hand_bits_5, t_hand_distances_count5, t_hand_distances_length4, t_hand_literals_count5, t_hand_literals_length4, t_hand_token4, t_joiner_above5, t_joiner_order5, t_joiner_weight5, t_lengthTaken5, t_matches_steps_1, t_matches_found1, t_prices_least4, t_prices_ofDistance4, t_prices_ofLength4, t_prices_ofLiteral4, t_row_size_5, t_row_literals_5, t_row_distances_5, t_row_toldOfCode_5, t_row_code_count5, t_row_code_length5, t_row_row5, t_trial_size_4, t_trial_matches_4, t_trial_kind_4, t_trial_bits_4, t_trial_distances_count4, t_trial_distances_length4, t_trial_literals_count4, t_trial_literals_length4, t_trial_token4))
def B_Cutter_takeBest_9 (F : Nat) (t_best_to : Nat → Int32) (x1 : Int32) (rec : Int32 → Int32 → Int32 → (Nat → Int32) → Option (Int32 × Int32 × Int32 × (Nat → Int32))) (v2_1 v3_1 t_takenCount_1 : Int32) (t_taken1 : Nat → Int32) : Option (Int32 × Int32 × Int32 × (Nat → Int32)) :=
(if x1 < v3_1 then
some (v2_1, v3_1, t_takenCount_1, t_taken1)
else
bnd3 (if (v3_1 * (128 : Int32)) = v2_1 then
chk (inb t_takenCount_1 4) <| nm (upd t_taken1 t_takenCount_1.toNatClampNeg v3_1) fun t_taken4 => nm (t_takenCount_1 + (1 : Int32)) fun y1 => chk (inb v3_1 4) <| nm (v3_1.toNatClampNeg) fun j1 => nm (t_best_to j1) fun y2 => some (y2, y1, t_taken4)
else
some (v2_1, t_takenCount_1, t_taken1)) fun z1 z2 t_taken3 =>
nm (v3_1 + Int32.ofInt (1)) fun y3 => rec z1 y3 z2 t_taken3)
def L_Cutter_takeBest_9 (F : Nat) (t_best_to : Nat → Int32) (x1 : Int32) : Nat → Int32 → Int32 → Int32 → (Nat → Int32) → Option (Int32 × Int32 × Int32 × (Nat → Int32))
  | 0 => fun _ _ _ _ => none
  | f + 1 => fun v2_1 v3_1 t_takenCount_1 t_taken1 => B_Cutter_takeBest_9 F t_best_to x1 (L_Cutter_takeBest_9 F t_best_to x1 f) v2_1 v3_1 t_takenCount_1 t_taken1
def m_Cutter_takeBest (F : Nat) (t_best_to t_taken : Nat → Int32) (x1 : Int32) : Option (Int32 × (Nat → Int32)) :=
bnd4 (L_Cutter_takeBest_9 F t_best_to x1 F (0 : Int32) (0 : Int32) (0 : Int32) t_taken) fun v2_3 v3_3 t_takenCount_3 t_taken5 =>
some (t_takenCount_3, t_taken5)
def B_Cutter_cut_35 (F : Nat) (t_bytes : Nat → Int32) (t_effort : Int32) (t_matches_below1 : Nat → Int32) (v3_1 x1 z1 : Int32) (rec : Int32 → (Nat → Nat → Int32) → (Nat → Int32) → (Nat → Int32) → (Nat → Int32) → (Nat → Int32) → (Nat → Int32) → (Nat → Int32) → (Nat → Int32) → (Nat → Int32) → Int32 → Int32 → Int32 → Int32 → (Nat → Int32) → (Nat → Int32) → (Nat → Int32) → (Nat → Int32) → (Nat → Int32) → (Nat → Int32) → (Nat → Int32) → (Nat → Int32) → (Nat → Int32) → Int32 → (Nat → Int32) → (Nat → Int32) → (Nat → Int32) → (Nat → Int32) → (Nat → Int32) → Int32 → Int32 → Int32 → Int32 → (Nat → Int32) → (Nat → Int32) → (Nat → Int32) → Int32 → Int32 → Int32 → Int32 → (Nat → Int32) → (Nat → Int32) → (Nat → Int32) → (Nat → Int32) → (Nat → Int32) → Option (Int32 × (Nat → Nat → Int32) × (Nat → Int32) × (Nat → Int32) × (Nat → Int32) × (Nat → Int32) × (Nat → Int32) × (Nat → Int32) × (Nat → Int32) × (Nat → Int32) × Int32 × Int32 × Int32 × Int32 × (Nat → Int32) × (Nat → Int32) × (Nat → Int32) × (Nat → Int32) × (Nat → Int32) × (Nat → Int32) × (Nat → Int32) × (Nat → Int32) × (Nat → Int32) × Int32 × (Nat → Int32) × (Nat → Int32) × (Nat → Int32) × (Nat → Int32) × (Nat → Int32) × Int32 × Int32 × Int32 × Int32 × (Nat → Int32) × (Nat → Int32) × (Nat → Int32) × Int32 × Int32 × Int32 × Int32 × (Nat → Int32) × (Nat → Int32) × (Nat → Int32) × (Nat → Int32) × (Nat → Int32))) (v4_1 : Int32) (t_best_token3 : Nat → Nat → Int32) (t_best_from3 t_best_to3 t_best_kind3 t_best_bits3 t_best_size3 t_best_matches3 t_best_replaced3 t_best_bitsToEnd3 : Nat → Int32) (t_hand_size_3 t_hand_matches_3 t_hand_kind_3 t_hand_bits_3 : Int32) (t_hand_distances_count3 t_hand_distances_length3 t_hand_literals_count3 t_hand_literals_length3 t_hand_token3 t_joiner_above3 t_joiner_order3 t_joiner_weight3 t_lengthTaken3 : Nat → Int32) (t_matches_steps_4 : Int32) (t_matches_found3 t_prices_least3 t_prices_ofDistance3 t_prices_ofLength3 t_prices_ofLiteral3 : Nat → Int32) (t_row_size_3 t_row_literals_3 t_row_distances_3 t_row_toldOfCode_3 : Int32) (t_row_code_count3 t_row_code_length3 t_row_row3 : Nat → Int32) (t_trial_size_3 t_trial_matches_3 t_trial_kind_3 t_trial_bits_3 : Int32) (t_trial_distances_count3 t_trial_distances_length3 t_trial_literals_count3 t_trial_literals_length3 t_trial_token3 : Nat → Int32) : Option (Int32 × (Nat → Nat → Int32) × (Nat → Int32) × (Nat → Int32) × (Nat → Int32) × (Nat → Int32) × (Nat → Int32) × (Nat → Int32) × (Nat → Int32) × (Nat → Int32) × Int32 × Int32 × Int32 × Int32 × (Nat → Int32) × (Nat → Int32) × (Nat → Int32) × (Nat → Int32) × (Nat → Int32) × (Nat → Int32) × (Nat → Int32) × (Nat → Int32) × (Nat → Int32) × Int32 × (Nat → Int32) × (Nat → Int32) × (Nat → Int32) × (Nat → Int32) × (Nat → Int32) × Int32 × Int32 × Int32 × Int32 × (Nat → Int32) × (Nat → Int32) × (Nat → Int32) × Int32 × Int32 × Int32 × Int32 × (Nat → Int32) × (Nat → Int32) × (Nat → Int32) × (Nat → Int32) × (Nat → Int32)) :=
(if (z1 + (1 : Int32)) < v4_1 then
some (v4_1, t_best_token3, t_best_from3, t_best_to3, t_best_kind3, t_best_bits3, t_best_size3, t_best_matches3, t_best_replaced3, t_best_bitsToEnd3, t_hand_size_3, t_hand_matches_3, t_hand_kind_3, t_hand_bits_3, t_hand_distances_count3, t_hand_distances_length3, t_hand_literals_count3, t_hand_literals_length3, t_hand_token3, t_joiner_above3, t_joiner_order3, t_joiner_weight3, t_lengthTaken3, t_matches_steps_4, t_matches_found3, t_prices_least3, t_prices_ofDistance3, t_prices_ofLength3, t_prices_ofLiteral3, t_row_size_3, t_row_literals_3, t_row_distances_3, t_row_toldOfCode_3, t_row_code_count3, t_row_code_length3, t_row_row3, t_trial_size_3, t_trial_matches_3, t_trial_kind_3, t_trial_bits_3, t_trial_distances_count3, t_trial_distances_length3, t_trial_literals_count3, t_trial_literals_length3, t_trial_token3)
else
nm (imin x1 (v4_1 * (128 : Int32))) fun y2 => bnd36 (m_Cutter_tryBlock F t_bytes t_effort t_hand_distances_count3 t_hand_distances_length3 t_hand_literals_count3 t_hand_literals_length3 t_hand_token3 t_joiner_above3 t_joiner_order3 t_joiner_weight3 t_lengthTaken3 t_matches_below1 t_matches_found3 t_matches_steps_4 t_prices_least3 t_prices_ofDistance3 t_prices_ofLength3 t_prices_ofLiteral3 t_row_code_count3 t_row_code_length3 t_row_distances_3 t_row_literals_3 t_row_row3 t_row_size_3 t_row_toldOfCode_3 t_trial_bits_3 t_trial_distances_count3 t_trial_distances_length3 t_trial_kind_3 t_trial_literals_count3 t_trial_literals_length3 t_trial_matches_3 t_trial_size_3 t_trial_token3 (v3_1 * (128 : Int32)) y2) fun r1 t_hand_size_5 t_hand_matches_5 t_hand_kind_5 t_hand_bits_5 t_hand_distances_count5 t_hand_distances_length5 t_hand_literals_count5 t_hand_literals_length5 t_hand_token5 t_joiner_above5 t_joiner_order5 t_joiner_weight5 t_lengthTaken5 t_matches_steps_6 t_matches_found5 t_prices_least5 t_prices_ofDistance5 t_prices_ofLength5 t_prices_ofLiteral5 t_row_size_5 t_row_literals_5 t_row_distances_5 t_row_toldOfCode_5 t_row_code_count5 t_row_code_length5 t_row_row5 t_trial_size_5 t_trial_matches_5 t_trial_kind_5 t_trial_bits_5 t_trial_distances_count5 t_trial_distances_length5 t_trial_literals_count5 t_trial_literals_length5 t_trial_token5 =>
bnd1 (if z1 < v4_1 then
some (0 : Int32)
else
chk (inb v4_1 4) <| nm (v4_1.toNatClampNeg) fun j1 => some (t_best_bitsToEnd3 j1)) fun z2 =>
bnd9 (if v4_1 = (v3_1 + (1 : Int32)) then
chk (inb v3_1 4) <| nm (v3_1.toNatClampNeg) fun j2 => bnd2 (m_Block_setBounds F (v3_1 * (128 : Int32)) y2) fun o_from1 o_to1 =>
nm (upd t_best_from3 j2 o_from1) fun t_best_from6 => nm (upd t_best_to3 j2 o_to1) fun t_best_to6 => chk (inb v3_1 4) <| nm (v3_1.toNatClampNeg) fun j3 => bnd7 (m_Block_keep F (bln j3) t_hand_bits_5 t_hand_kind_5 t_hand_matches_5 t_hand_size_5 t_hand_token5 (t_best_token3 j3) r1 z2) fun o_kind1 o_bits1 o_size1 o_matches1 o_replaced1 o_bitsToEnd1 o_token1 =>
nm (upd t_best_kind3 j3 o_kind1) fun t_best_kind6 => nm (upd t_best_bits3 j3 o_bits1) fun t_best_bits6 => nm (upd t_best_size3 j3 o_size1) fun t_best_size6 => nm (upd t_best_matches3 j3 o_matches1) fun t_best_matches6 => nm (upd t_best_replaced3 j3 o_replaced1) fun t_best_replaced6 => nm (upd t_best_bitsToEnd3 j3 o_bitsToEnd1) fun t_best_bitsToEnd6 => nm (updT t_best_token3 j3 o_token1) fun t_best_token6 => some (t_best_token6, t_best_from6, t_best_to6, t_best_kind6, t_best_bits6, t_best_size6, t_best_matches6, t_best_replaced6, t_best_bitsToEnd6)
else
chk (inb v3_1 4) <| nm (v3_1.toNatClampNeg) fun j4 => (if (t_best_bitsToEnd3 j4) ≤ (t_hand_bits_5 + z2) then
some (t_best_token3, t_best_from3, t_best_to3, t_best_kind3, t_best_bits3, t_best_size3, t_best_matches3, t_best_replaced3, t_best_bitsToEnd3)
else
chk (inb v3_1 4) <| nm (v3_1.toNatClampNeg) fun j5 => bnd2 (m_Block_setBounds F (v3_1 * (128 : Int32)) y2) fun o_from2 o_to2 =>
nm (upd t_best_from3 j5 o_from2) fun t_best_from7 => nm (upd t_best_to3 j5 o_to2) fun t_best_to7 => chk (inb v3_1 4) <| nm (v3_1.toNatClampNeg) fun j6 => bnd7 (m_Block_keep F (bln j6) t_hand_bits_5 t_hand_kind_5 t_hand_matches_5 t_hand_size_5 t_hand_token5 (t_best_token3 j6) r1 z2) fun o_kind2 o_bits2 o_size2 o_matches2 o_replaced2 o_bitsToEnd2 o_token2 =>
nm (upd t_best_kind3 j6 o_kind2) fun t_best_kind7 => nm (upd t_best_bits3 j6 o_bits2) fun t_best_bits7 => nm (upd t_best_size3 j6 o_size2) fun t_best_size7 => nm (upd t_best_matches3 j6 o_matches2) fun t_best_matches7 => nm (upd t_best_replaced3 j6 o_replaced2) fun t_best_replaced7 => nm (upd t_best_bitsToEnd3 j6 o_bitsToEnd2) fun t_best_bitsToEnd7 => nm (updT t_best_token3 j6 o_token2) fun t_best_token7 => some (t_best_token7, t_best_from7, t_best_to7, t_best_kind7, t_best_bits7, t_best_size7, t_best_matches7, t_best_replaced7, t_best_bitsToEnd7))) fun t_best_token5 t_best_from5 t_best_to5 t_best_kind5 t_best_bits5 t_best_size5 t_best_matches5 t_best_replaced5 t_best_bitsToEnd5 =>
nm (v4_1 + Int32.ofInt (1)) fun y3 => rec y3 t_best_token5 t_best_from5 t_best_to5 t_best_kind5 t_best_bits5 t_best_size5 t_best_matches5 t_best_replaced5 t_best_bitsToEnd5 t_hand_size_5 t_hand_matches_5 t_hand_kind_5 t_hand_bits_5 t_hand_distances_count5 t_hand_distances_length5 t_hand_literals_count5 t_hand_literals_length5 t_hand_token5 t_joiner_above5 t_joiner_order5 t_joiner_weight5 t_lengthTaken5 t_matches_steps_6 t_matches_found5 t_prices_least5 t_prices_ofDistance5 t_prices_ofLength5 t_prices_ofLiteral5 t_row_size_5 t_row_literals_5 t_row_distances_5 t_row_toldOfCode_5 t_row_code_count5 t_row_code_length5 t_row_row5 t_trial_size_5 t_trial_matches_5 t_trial_kind_5 t_trial_bits_5 t_trial_distances_count5 t_trial_distances_length5 t_trial_literals_count5 t_trial_literals_length5 t_trial_token5)
def L_Cutter_cut_35 (F : Nat) (t_bytes : Nat → Int32) (t_effort : Int32) (t_matches_below1 : Nat → Int32) (v3_1 x1 z1 : Int32) : Nat → Int32 → (Nat → Nat → Int32) → (Nat → Int32) → (Nat → Int32) → (Nat → Int32) → (Nat → Int32) → (Nat → Int32) → (Nat → Int32) → (Nat → Int32) → (Nat → Int32) → Int32 → Int32 → Int32 → Int32 → (Nat → Int32) → (Nat → Int32) → (Nat → Int32) → (Nat → Int32) → (Nat → Int32) → (Nat → Int32) → (Nat → Int32) → (Nat → Int32) → (Nat → Int32) → Int32 → (Nat → Int32) → (Nat → Int32) → (Nat → Int32) → (Nat → Int32) → (Nat → Int32) → Int32 → Int32 → Int32 → Int32 → (Nat → Int32) → (Nat → Int32) → (Nat → Int32) → Int32 → Int32 → Int32 → Int32 → (Nat → Int32) → (Nat → Int32) → (Nat → Int32) → (Nat → Int32) → (Nat → Int32) → Option (Int32 × (Nat → Nat → Int32) × (Nat → Int32) × (Nat → Int32) × (Nat → Int32) × (Nat → Int32) × (Nat → Int32) × (Nat → Int32) × (Nat → Int32) × (Nat → Int32) × Int32 × Int32 × Int32 × Int32 × (Nat → Int32) × (Nat → Int32) × (Nat → Int32) × (Nat → Int32) × (Nat → Int32) × (Nat → Int32) × (Nat → Int32) × (Nat → Int32) × (Nat → Int32) × Int32 × (Nat → Int32) × (Nat → Int32) × (Nat → Int32) × (Nat → Int32) × (Nat → Int32) × Int32 × Int32 × Int32 × Int32 × (Nat → Int32) × (Nat → Int32) × (Nat → Int32) × Int32 × Int32 × Int32 × Int32 × (Nat → Int32) × (Nat → Int32) × (Nat → Int32) × (Nat → Int32) × (Nat → Int32))
  | 0 => fun _ _ _ _ _ _ _ _ _ _ _ _ _ _ _ _ _ _ _ _ _ _ _ _ _ _ _ _ _ _ _ _ _ _ _ _ _ _ _ _ _ _ _ _ _ => none
  | f + 1 => fun v4_1 t_best_token3 t_best_from3 t_best_to3 t_best_kind3 t_best_bits3 t_best_size3 t_best_matches3 t_best_replaced3 t_best_bitsToEnd3 t_hand_size_3 t_hand_matches_3 t_hand_kind_3 t_hand_bits_3 t_hand_distances_count3 t_hand_distances_length3 t_hand_literals_count3 t_hand_literals_length3 t_hand_token3 t_joiner_above3 t_joiner_order3 t_joiner_weight3 t_lengthTaken3 t_matches_steps_4 t_matches_found3 t_prices_least3 t_prices_ofDistance3 t_prices_ofLength3 t_prices_ofLiteral3 t_row_size_3 t_row_literals_3 t_row_distances_3 t_row_toldOfCode_3 t_row_code_count3 t_row_code_length3 t_row_row3 t_trial_size_3 t_trial_matches_3 t_trial_kind_3 t_trial_bits_3 t_trial_distances_count3 t_trial_distances_length3 t_trial_literals_count3 t_trial_literals_length3 t_trial_token3 => B_Cutter_cut_35 F t_bytes t_effort t_matches_below1 v3_1 x1 z1 (L_Cutter_cut_35 F t_bytes t_effort t_matches_below1 v3_1 x1 z1 f) v4_1 t_best_token3 t_best_from3 t_best_to3 t_best_kind3 t_best_bits3 t_best_size3 t_best_matches3 t_best_replaced3 t_best_bitsToEnd3 t_hand_size_3 t_hand_matches_3 t_hand_kind_3 t_hand_bits_3 t_hand_distances_count3 t_hand_distances_length3 t_hand_literals_count3 t_hand_literals_length3 t_hand_token3 t_joiner_above3 t_joiner_order3 t_joiner_weight3 t_lengthTaken3 t_matches_steps_4 t_matches_found3 t_prices_least3 t_prices_ofDistance3 t_prices_ofLength3 t_prices_ofLiteral3 t_row_size_3 t_row_literals_3 t_row_distances_3 t_row_toldOfCode_3 t_row_code_count3 t_row_code_length3 t_row_row3 t_trial_size_3 t_trial_matches_3 t_trial_kind_3 t_trial_bits_3 t_trial_distances_count3 t_trial_distances_length3 t_trial_literals_count3 t_trial_literals_length3 t_trial_token3
def B_Cutter_cut_26 (F : Nat) (t_bytes : Nat → Int32) (t_effort : Int32) (t_matches_below1 : Nat → Int32) (x1 z1 : Int32) (rec : Int32 → (Nat → Nat → Int32) → (Nat → Int32) → (Nat → Int32) → (Nat → Int32) → (Nat → Int32) → (Nat → Int32) → (Nat → Int32) → (Nat → Int32) → (Nat → Int32) → Int32 → Int32 → Int32 → Int32 → (Nat → Int32) → (Nat → Int32) → (Nat → Int32) → (Nat → Int32) → (Nat → Int32) → (Nat → Int32) → (Nat → Int32) → (Nat → Int32) → (Nat → Int32) → Int32 → (Nat → Int32) → (Nat → Int32) → (Nat → Int32) → (Nat → Int32) → (Nat → Int32) → Int32 → Int32 → Int32 → Int32 → (Nat → Int32) → (Nat → Int32) → (Nat → Int32) → Int32 → Int32 → Int32 → Int32 → (Nat → Int32) → (Nat → Int32) → (Nat → Int32) → (Nat → Int32) → (Nat → Int32) → Option (Int32 × (Nat → Nat → Int32) × (Nat → Int32) × (Nat → Int32) × (Nat → Int32) × (Nat → Int32) × (Nat → Int32) × (Nat → Int32) × (Nat → Int32) × (Nat → Int32) × Int32 × Int32 × Int32 × Int32 × (Nat → Int32) × (Nat → Int32) × (Nat → Int32) × (Nat → Int32) × (Nat → Int32) × (Nat → Int32) × (Nat → Int32) × (Nat → Int32) × (Nat → Int32) × Int32 × (Nat → Int32) × (Nat → Int32) × (Nat → Int32) × (Nat → Int32) × (Nat → Int32) × Int32 × Int32 × Int32 × Int32 × (Nat → Int32) × (Nat → Int32) × (Nat → Int32) × Int32 × Int32 × Int32 × Int32 × (Nat → Int32) × (Nat → Int32) × (Nat → Int32) × (Nat → Int32) × (Nat → Int32))) (v3_1 : Int32) (t_best_token1 : Nat → Nat → Int32) (t_best_from1 t_best_to1 t_best_kind1 t_best_bits1 t_best_size1 t_best_matches1 t_best_replaced1 t_best_bitsToEnd1 : Nat → Int32) (t_hand_size_1 t_hand_matches_1 t_hand_kind_1 t_hand_bits_1 : Int32) (t_hand_distances_count1 t_hand_distances_length1 t_hand_literals_count1 t_hand_literals_length1 t_hand_token1 t_joiner_above1 t_joiner_order1 t_joiner_weight1 t_lengthTaken1 : Nat → Int32) (t_matches_steps_2 : Int32) (t_matches_found1 t_prices_least1 t_prices_ofDistance1 t_prices_ofLength1 t_prices_ofLiteral1 : Nat → Int32) (t_row_size_1 t_row_literals_1 t_row_distances_1 t_row_toldOfCode_1 : Int32) (t_row_code_count1 t_row_code_length1 t_row_row1 : Nat → Int32) (t_trial_size_1 t_trial_matches_1 t_trial_kind_1 t_trial_bits_1 : Int32) (t_trial_distances_count1 t_trial_distances_length1 t_trial_literals_count1 t_trial_literals_length1 t_trial_token1 : Nat → Int32) : Option (Int32 × (Nat → Nat → Int32) × (Nat → Int32) × (Nat → Int32) × (Nat → Int32) × (Nat → Int32) × (Nat → Int32) × (Nat → Int32) × (Nat → Int32) × (Nat → Int32) × Int32 × Int32 × Int32 × Int32 × (Nat → Int32) × (Nat → Int32) × (Nat → Int32) × (Nat → Int32) × (Nat → Int32) × (Nat → Int32) × (Nat → Int32) × (Nat → Int32) × (Nat → Int32) × Int32 × (Nat → Int32) × (Nat → Int32) × (Nat → Int32) × (Nat → Int32) × (Nat → Int32) × Int32 × Int32 × Int32 × Int32 × (Nat → Int32) × (Nat → Int32) × (Nat → Int32) × Int32 × Int32 × Int32 × Int32 × (Nat → Int32) × (Nat → Int32) × (Nat → Int32) × (Nat → Int32) × (Nat → Int32)) :=
(if v3_1 < (0 : Int32) then
some (v3_1, t_best_token1, t_best_from1, t_best_to1, t_best_kind1, t_best_bits1, t_best_size1, t_best_matches1, t_best_replaced1, t_best_bitsToEnd1, t_hand_size_1, t_hand_matches_1, t_hand_kind_1, t_hand_bits_1, t_hand_distances_count1, t_hand_distances_length1, t_hand_literals_count1, t_hand_literals_length1, t_hand_token1, t_joiner_above1, t_joiner_order1, t_joiner_weight1, t_lengthTaken1, t_matches_steps_2, t_matches_found1, t_prices_least1, t_prices_ofDistance1, t_prices_ofLength1, t_prices_ofLiteral1, t_row_size_1, t_row_literals_1, t_row_distances_1, t_row_toldOfCode_1, t_row_code_count1, t_row_code_length1, t_row_row1, t_trial_size_1, t_trial_matches_1, t_trial_kind_1, t_trial_bits_1, t_trial_distances_count1, t_trial_distances_length1, t_trial_literals_count1, t_trial_literals_length1, t_trial_token1)
else
nm (v3_1 + (1 : Int32)) fun y1 => bnd45 (L_Cutter_cut_35 F t_bytes t_effort t_matches_below1 v3_1 x1 z1 F y1 t_best_token1 t_best_from1 t_best_to1 t_best_kind1 t_best_bits1 t_best_size1 t_best_matches1 t_best_replaced1 t_best_bitsToEnd1 t_hand_size_1 t_hand_matches_1 t_hand_kind_1 t_hand_bits_1 t_hand_distances_count1 t_hand_distances_length1 t_hand_literals_count1 t_hand_literals_length1 t_hand_token1 t_joiner_above1 t_joiner_order1 t_joiner_weight1 t_lengthTaken1 t_matches_steps_2 t_matches_found1 t_prices_least1 t_prices_ofDistance1 t_prices_ofLength1 t_prices_ofLiteral1 t_row_size_1 t_row_literals_1 t_row_distances_1 t_row_toldOfCode_1 t_row_code_count1 t_row_code_length1 t_row_row1 t_trial_size_1 t_trial_matches_1 t_trial_kind_1 t_trial_bits_1 t_trial_distances_count1 t_trial_distances_length1 t_trial_literals_count1 t_trial_literals_length1 t_trial_token1) fun v4_3 t_best_token8 t_best_from8 t_best_to8 t_best_kind8 t_best_bits8 t_best_size8 t_best_matches8 t_best_replaced8 t_best_bitsToEnd8 t_hand_size_6 t_hand_matches_6 t_hand_kind_6 t_hand_bits_6 t_hand_distances_count6 t_hand_distances_length6 t_hand_literals_count6 t_hand_literals_length6 t_hand_token6 t_joiner_above6 t_joiner_order6 t_joiner_weight6 t_lengthTaken6 t_matches_steps_7 t_matches_found6 t_prices_least6 t_prices_ofDistance6 t_prices_ofLength6 t_prices_ofLiteral6 t_row_size_6 t_row_literals_6 t_row_distances_6 t_row_toldOfCode_6 t_row_code_count6 t_row_code_length6 t_row_row6 t_trial_size_6 t_trial_matches_6 t_trial_kind_6 t_trial_bits_6 t_trial_distances_count6 t_trial_distances_length6 t_trial_literals_count6 t_trial_literals_length6 t_trial_token6 =>
nm (v3_1 + Int32.ofInt (-1)) fun y4 => rec y4 t_best_token8 t_best_from8 t_best_to8 t_best_kind8 t_best_bits8 t_best_size8 t_best_matches8 t_best_replaced8 t_best_bitsToEnd8 t_hand_size_6 t_hand_matches_6 t_hand_kind_6 t_hand_bits_6 t_hand_distances_count6 t_hand_distances_length6 t_hand_literals_count6 t_hand_literals_length6 t_hand_token6 t_joiner_above6 t_joiner_order6 t_joiner_weight6 t_lengthTaken6 t_matches_steps_7 t_matches_found6 t_prices_least6 t_prices_ofDistance6 t_prices_ofLength6 t_prices_ofLiteral6 t_row_size_6 t_row_literals_6 t_row_distances_6 t_row_toldOfCode_6 t_row_code_count6 t_row_code_length6 t_row_row6 t_trial_size_6 t_trial_matches_6 t_trial_kind_6 t_trial_bits_6 t_trial_distances_count6 t_trial_distances_length6 t_trial_literals_count6 t_trial_literals_length6 t_trial_token6)
def L_Cutter_cut_26 (F : Nat) (t_bytes : Nat → Int32) (t_effort : Int32) (t_matches_below1 : Nat → Int32) (x1 z1 : Int32) : Nat → Int32 → (Nat → Nat → Int32) → (Nat → Int32) → (Nat → Int32) → (Nat → Int32) → (Nat → Int32) → (Nat → Int32) → (Nat → Int32) → (Nat → Int32) → (Nat → Int32) → Int32 → Int32 → Int32 → Int32 → (Nat → Int32) → (Nat → Int32) → (Nat → Int32) → (Nat → Int32) → (Nat → Int32) → (Nat → Int32) → (Nat → Int32) → (Nat → Int32) → (Nat → Int32) → Int32 → (Nat → Int32) → (Nat → Int32) → (Nat → Int32) → (Nat → Int32) → (Nat → Int32) → Int32 → Int32 → Int32 → Int32 → (Nat → Int32) → (Nat → Int32) → (Nat → Int32) → Int32 → Int32 → Int32 → Int32 → (Nat → Int32) → (Nat → Int32) → (Nat → Int32) → (Nat → Int32) → (Nat → Int32) → Option (Int32 × (Nat → Nat → Int32) × (Nat → Int32) × (Nat → Int32) × (Nat → Int32) × (Nat → Int32) × (Nat → Int32) × (Nat → Int32) × (Nat → Int32) × (Nat → Int32) × Int32 × Int32 × Int32 × Int32 × (Nat → Int32) × (Nat → Int32) × (Nat → Int32) × (Nat → Int32) × (Nat → Int32) × (Nat → Int32) × (Nat → Int32) × (Nat → Int32) × (Nat → Int32) × Int32 × (Nat → Int32) × (Nat → Int32) × (Nat → Int32) × (Nat → Int32) × (Nat → Int32) × Int32 × Int32 × Int32 × Int32 × (Nat → Int32) × (Nat → Int32) × (Nat → Int32) × Int32 × Int32 × Int32 × Int32 × (Nat → Int32) × (Nat → Int32) × (Nat → Int32) × (Nat → Int32) × (Nat → Int32))
  | 0 => fun _ _ _ _ _ _ _ _ _ _ _ _ _ _ _ _ _ _ _ _ _ _ _ _ _ _ _ _ _ _ _ _ _ _ _ _ _ _ _ _ _ _ _ _ _ => none
  | f + 1 => fun v3_1 t_best_token1 t_best_from1 t_best_to1 t_best_kind1 t_best_bits1 t_best_size1 t_best_matches1 t_best_replaced1 t_best_bitsToEnd1 t_hand_size_1 t_hand_matches_1 t_hand_kind_1 t_hand_bits_1 t_hand_distances_count1 t_hand_distances_length1 t_hand_literals_count1 t_hand_literals_length1 t_hand_token1 t_joiner_above1 t_joiner_order1 t_joiner_weight1 t_lengthTaken1 t_matches_steps_2 t_matches_found1 t_prices_least1 t_prices_ofDistance1 t_prices_ofLength1 t_prices_ofLiteral1 t_row_size_1 t_row_literals_1 t_row_distances_1 t_row_toldOfCode_1 t_row_code_count1 t_row_code_length1 t_row_row1 t_trial_size_1 t_trial_matches_1 t_trial_kind_1 t_trial_bits_1 t_trial_distances_count1 t_trial_distances_length1 t_trial_literals_count1 t_trial_literals_length1 t_trial_token1 => B_Cutter_cut_26 F t_bytes t_effort t_matches_below1 x1 z1 (L_Cutter_cut_26 F t_bytes t_effort t_matches_below1 x1 z1 f) v3_1 t_best_token1 t_best_from1 t_best_to1 t_best_kind1 t_best_bits1 t_best_size1 t_best_matches1 t_best_replaced1 t_best_bitsToEnd1 t_hand_size_1 t_hand_matches_1 t_hand_kind_1 t_hand_bits_1 t_hand_distances_count1 t_hand_distances_length1 t_hand_literals_count1 t_hand_literals_length1 t_hand_token1 t_joiner_above1 t_joiner_order1 t_joiner_weight1 t_lengthTaken1 t_matches_steps_2 t_matches_found1 t_prices_least1 t_prices_ofDistance1 t_prices_ofLength1 t_prices_ofLiteral1 t_row_size_1 t_row_literals_1 t_row_distances_1 t_row_toldOfCode_1 t_row_code_count1 t_row_code_length1 t_row_row1 t_trial_size_1 t_trial_matches_1 t_trial_kind_1 t_trial_bits_1 t_trial_distances_count1 t_trial_distances_length1 t_trial_literals_count1 t_trial_literals_length1 t_trial_token1
def m_Cutter_cut (F : Nat) (t_best_bits t_best_bitsToEnd t_best_from t_best_kind t_best_matches t_best_replaced t_best_size t_best_to : Nat → Int32) (t_best_token : Nat → Nat → Int32) (t_bytes : Nat → Int32) (t_effort t_hand_bits : Int32) (t_hand_distances_count t_hand_distances_length : Nat → Int32) (t_hand_kind : Int32) (t_hand_literals_count t_hand_literals_length : Nat → Int32) (t_hand_matches t_hand_size : Int32) (t_hand_token t_joiner_above t_joiner_order t_joiner_weight t_lengthTaken t_matches_below t_matches_bucket t_matches_found t_prices_least t_prices_ofDistance t_prices_ofLength t_prices_ofLiteral t_row_code_count t_row_code_length : Nat → Int32) (t_row_distances t_row_literals : Int32) (t_row_row : Nat → Int32) (t_row_size t_row_toldOfCode : Int32) (t_taken : Nat → Int32) (t_trial_bits : Int32) (t_trial_distances_count t_trial_distances_length : Nat → Int32) (t_trial_kind : Int32) (t_trial_literals_count t_trial_literals_length : Nat → Int32) (t_trial_matches t_trial_size : Int32) (t_trial_token : Nat → Int32) (x1 : Int32) : Option (Int32 × (Nat → Nat → Int32) × (Nat → Int32) × (Nat → Int32) × (Nat → Int32) × (Nat → Int32) × (Nat → Int32) × (Nat → Int32) × (Nat → Int32) × (Nat → Int32) × Int32 × Int32 × Int32 × Int32 × (Nat → Int32) × (Nat → Int32) × (Nat → Int32) × (Nat → Int32) × (Nat → Int32) × (Nat → Int32) × (Nat → Int32) × (Nat → Int32) × (Nat → Int32) × Int32 × (Nat → Int32) × (Nat → Int32) × (Nat → Int32) × (Nat → Int32) × (Nat → Int32) × (Nat → Int32) × (Nat → Int32) × Int32 × Int32 × Int32 × Int32 × (Nat → Int32) × (Nat → Int32) × (Nat → Int32) × (Nat → Int32) × Int32 × Int32 × Int32 × Int32 × (Nat → Int32) × (Nat → Int32) × (Nat → Int32) × (Nat → Int32) × (Nat → Int32)) :=
bnd3 (m_Matches_link F t_matches_below t_matches_bucket t_bytes x1) fun t_matches_steps_1 t_matches_below1 t_matches_bucket1 =>
bnd1 (if x1 = (0 : Int32) then
some (0 : Int32)
else
some ((x1 - (1 : Int32)) / (128 : Int32))) fun z1 =>
bnd45 (L_Cutter_cut_26 F t_bytes t_effort t_matches_below1 x1 z1 F z1 t_best_token t_best_from t_best_to t_best_kind t_best_bits t_best_size t_best_matches t_best_replaced t_best_bitsToEnd t_hand_size t_hand_matches t_hand_kind t_hand_bits t_hand_distances_count t_hand_distances_length t_hand_literals_count t_hand_literals_length t_hand_token t_joiner_above t_joiner_order t_joiner_weight t_lengthTaken t_matches_steps_1 t_matches_found t_prices_least t_prices_ofDistance t_prices_ofLength t_prices_ofLiteral t_row_size t_row_literals t_row_distances t_row_toldOfCode t_row_code_count t_row_code_length t_row_row t_trial_size t_trial_matches t_trial_kind t_trial_bits t_trial_distances_count t_trial_distances_length t_trial_literals_count t_trial_literals_length t_trial_token) fun v3_3 t_best_token9 t_best_from9 t_best_to9 t_best_kind9 t_best_bits9 t_best_size9 t_best_matches9 t_best_replaced9 t_best_bitsToEnd9 t_hand_size_7 t_hand_matches_7 t_hand_kind_7 t_hand_bits_7 t_hand_distances_count7 t_hand_distances_length7 t_hand_literals_count7 t_hand_literals_length7 t_hand_token7 t_joiner_above7 t_joiner_order7 t_joiner_weight7 t_lengthTaken7 t_matches_steps_8 t_matches_found7 t_prices_least7 t_prices_ofDistance7 t_prices_ofLength7 t_prices_ofLiteral7 t_row_size_7 t_row_literals_7 t_row_distances_7 t_row_toldOfCode_7 t_row_code_count7 t_row_code_length7 t_row_row7 t_trial_size_7 t_trial_matches_7 t_trial_kind_7 t_trial_bits_7 t_trial_distances_count7 t_trial_distances_length7 t_trial_literals_count7 t_trial_literals_length7 t_trial_token7 =>
bnd2 (m_Cutter_takeBest F t_best_to9 t_taken z1) fun t_takenCount_1 t_taken1 =>
some (t_takenCount_1, t_best_token9, t_best_from9, t_best_to9, t_best_kind9, t_best_bits9, t_best_size9, t_best_matches9, t_best_replaced9, t_best_bitsToEnd9, t_hand_size_7, t_hand_matches_7, t_hand_kind_7, t_hand_bits_7, t_hand_distances_count7, t_hand_distances_length7, t_hand_literals_count7, t_hand_literals_length7, t_hand_token7, t_joiner_above7, t_joiner_order7, t_joiner_weight7, t_lengthTaken7, t_matches_steps_8, t_matches_below1, t_matches_bucket1, t_matches_found7, t_prices_least7, t_prices_ofDistance7, t_prices_ofLength7, t_prices_ofLiteral7, t_row_size_7, t_row_literals_7, t_row_distances_7, t_row_toldOfCode_7, t_row_code_count7, t_row_code_length7, t_row_row7, t_taken1, t_trial_size_7, t_trial_matches_7, t_trial_kind_7, t_trial_bits_7, t_trial_distances_count7, t_trial_distances_length7, t_trial_literals_count7, t_trial_literals_length7, t_trial_token7)
def B_Cutter_planOf_9 (F : Nat) (n_p1 : Nat) (p1_size : Int32) (p1_token : Nat → Int32) (rec : Int32 → Int32 → Int32 → (Nat → Int32) → (Nat → Int32) → (Nat → Int32) → Option (Int32 × Int32 × Int32 × (Nat → Int32) × (Nat → Int32) × (Nat → Int32))) (v2_1 t_hand_size_2 t_hand_matches_2 : Int32) (t_hand_distances_count2 t_hand_literals_count2 t_hand_token1 : Nat → Int32) : Option (Int32 × Int32 × Int32 × (Nat → Int32) × (Nat → Int32) × (Nat → Int32)) :=
(if p1_size ≤ v2_1 then
some (v2_1, t_hand_size_2, t_hand_matches_2, t_hand_distances_count2, t_hand_literals_count2, t_hand_token1)
else
chk (inb v2_1 n_p1) <| bnd5 (m_Plan_addToken F t_hand_distances_count2 t_hand_literals_count2 t_hand_matches_2 t_hand_size_2 t_hand_token1 (p1_token v2_1.toNatClampNeg)) fun t_hand_size_4 t_hand_matches_4 t_hand_distances_count4 t_hand_literals_count4 t_hand_token3 =>
nm (v2_1 + Int32.ofInt (1)) fun y1 => rec y1 t_hand_size_4 t_hand_matches_4 t_hand_distances_count4 t_hand_literals_count4 t_hand_token3)
def L_Cutter_planOf_9 (F : Nat) (n_p1 : Nat) (p1_size : Int32) (p1_token : Nat → Int32) : Nat → Int32 → Int32 → Int32 → (Nat → Int32) → (Nat → Int32) → (Nat → Int32) → Option (Int32 × Int32 × Int32 × (Nat → Int32) × (Nat → Int32) × (Nat → Int32))
  | 0 => fun _ _ _ _ _ _ => none
  | f + 1 => fun v2_1 t_hand_size_2 t_hand_matches_2 t_hand_distances_count2 t_hand_literals_count2 t_hand_token1 => B_Cutter_planOf_9 F n_p1 p1_size p1_token (L_Cutter_planOf_9 F n_p1 p1_size p1_token f) v2_1 t_hand_size_2 t_hand_matches_2 t_hand_distances_count2 t_hand_literals_count2 t_hand_token1
def m_Cutter_planOf (F : Nat) (n_p1 : Nat) (p1_from p1_size p1_to : Int32) (p1_token t_hand_distances_count t_hand_distances_length t_hand_literals_count t_hand_literals_length t_hand_token t_joiner_above t_joiner_order t_joiner_weight t_row_code_count t_row_code_length t_row_row : Nat → Int32) : Option (Int32 × Int32 × Int32 × Int32 × (Nat → Int32) × (Nat → Int32) × (Nat → Int32) × (Nat → Int32) × (Nat → Int32) × (Nat → Int32) × (Nat → Int32) × (Nat → Int32) × Int32 × Int32 × Int32 × Int32 × (Nat → Int32) × (Nat → Int32) × (Nat → Int32)) :=
bnd4 (m_Plan_restart F t_hand_distances_count t_hand_literals_count) fun t_hand_size_1 t_hand_matches_1 t_hand_distances_count1 t_hand_literals_count1 =>
bnd6 (L_Cutter_planOf_9 F n_p1 p1_size p1_token F (0 : Int32) t_hand_size_1 t_hand_matches_1 t_hand_distances_count1 t_hand_literals_count1 t_hand_token) fun v2_3 t_hand_size_5 t_hand_matches_5 t_hand_distances_count5 t_hand_literals_count5 t_hand_token4 =>
bnd14 (m_Plan_weigh F t_joiner_above t_joiner_order t_joiner_weight t_row_code_count t_row_code_length t_row_row t_hand_distances_count5 t_hand_distances_length t_hand_literals_count5 t_hand_literals_length t_hand_matches_5 (p1_to - p1_from)) fun t_joiner_above1 t_joiner_order1 t_joiner_weight1 t_row_size_1 t_row_literals_1 t_row_distances_1 t_row_toldOfCode_1 t_row_code_count1 t_row_code_length1 t_row_row1 t_hand_kind_1 t_hand_bits_1 t_hand_distances_length1 t_hand_literals_length1 =>
some (t_hand_size_5, t_hand_matches_5, t_hand_kind_1, t_hand_bits_1, t_hand_distances_count5, t_hand_distances_length1, t_hand_literals_count5, t_hand_literals_length1, t_hand_token4, t_joiner_above1, t_joiner_order1, t_joiner_weight1, t_row_size_1, t_row_literals_1, t_row_distances_1, t_row_toldOfCode_1, t_row_code_count1, t_row_code_length1, t_row_row1)
def m_LengthRow_extraAt (F : Nat) (t_row : Nat → Int32) (x1 : Int32) : Option (Int32) :=
chk (inb x1 316) <| some (rx_us (t_row x1.toNatClampNeg) (8 : Int32))
def m_Reader_restart (F : Nat) (x1 : Int32) : Option (Int32 × Int32 × Int32 × Int32 × Int32) :=
nm ((8 : Int32) * (imin x1 (nI 1200))) fun y1 => some ((0 : Int32), (-1 : Int32), (-1 : Int32), y1, (0 : Int32))
def B_Reader_takeBits_40 (F : Nat) (t_coded : Nat → Int32) (x1 : Int32) (rec : Int32 → Int32 → Int32 → Option (Int32 × Int32 × Int32)) (v2_1 v3_1 t_at_1 : Int32) : Option (Int32 × Int32 × Int32) :=
(if x1 ≤ v3_1 then
some (v2_1, v3_1, t_at_1)
else
chk (inb (t_at_1 >>> ((3 : Int32) &&& 31)) 1200) <| nm (v2_1 ||| (((rx_us (t_coded (t_at_1 >>> ((3 : Int32) &&& 31)).toNatClampNeg) (t_at_1 &&& (7 : Int32))) &&& (1 : Int32)) <<< (v3_1 &&& 31))) fun y1 => nm (t_at_1 + (1 : Int32)) fun y2 => nm (v3_1 + Int32.ofInt (1)) fun y3 => rec y1 y3 y2)
def L_Reader_takeBits_40 (F : Nat) (t_coded : Nat → Int32) (x1 : Int32) : Nat → Int32 → Int32 → Int32 → Option (Int32 × Int32 × Int32)
  | 0 => fun _ _ _ => none
  | f + 1 => fun v2_1 v3_1 t_at_1 => B_Reader_takeBits_40 F t_coded x1 (L_Reader_takeBits_40 F t_coded x1 f) v2_1 v3_1 t_at_1
def m_Reader_takeBits (F : Nat) (t_at t_bitCount : Int32) (t_coded : Nat → Int32) (t_state x1 : Int32) : Option (Int32 × Int32 × Int32) :=
bnd1 (if t_state = (-1 : Int32) then
(if x1 ≤ (t_bitCount - t_at) then
some t_state
else
some (0 : Int32))
else
some t_state) fun z1 =>
(if z1 = (-1 : Int32) then
bnd3 (L_Reader_takeBits_40 F t_coded x1 F (0 : Int32) (0 : Int32) t_at) fun v2_3 v3_3 t_at_3 =>
some (v2_3, z1, t_at_3)
else
some ((-1 : Int32), z1, t_at))
def m_Reader_breakAt (F : Nat) (x1 : Int32) : Option (Int32 × Int32) :=
some (x1, (2 : Int32))
def m_Reader_readNumbers (F : Nat) (t_at t_bitCount : Int32) (t_coded : Nat → Int32) (t_state t_stopBit : Int32) : Option (Int32 × Int32 × Int32 × Int32 × Int32) :=
bnd3 (m_Reader_takeBits F t_at t_bitCount t_coded t_state (5 : Int32)) fun r1 t_state_1 t_at_1 =>
nm ((r1 + (256 : Int32)) + (1 : Int32)) fun y1 => bnd2 (if t_state_1 = (-1 : Int32) then
(if y1 ≤ (286 : Int32) then
some (t_stopBit, t_state_1)
else
bnd2 (m_Reader_breakAt F t_at) fun t_stopBit_1 t_state_2 =>
some (t_stopBit_1, t_state_2))
else
some (t_stopBit, t_state_1)) fun z1 z2 =>
bnd3 (m_Reader_takeBits F t_at_1 t_bitCount t_coded z2 (5 : Int32)) fun r2 t_state_3 t_at_2 =>
nm (r2 + (1 : Int32)) fun y2 => (if t_state_3 = (-1 : Int32) then
(if y2 ≤ (30 : Int32) then
some (z1, t_state_3, t_at_2, y1, y2)
else
bnd2 (m_Reader_breakAt F t_at_1) fun t_stopBit_2 t_state_4 =>
some (t_stopBit_2, t_state_4, t_at_2, y1, y2))
else
some (z1, t_state_3, t_at_2, y1, y2))
def B_Reader_readLengthsCode_18 (F : Nat) (t_bitCount : Int32) (t_coded : Nat → Int32) (y1 : Int32) (rec : Int32 → Int32 → Int32 → (Nat → Int32) → Option (Int32 × Int32 × Int32 × (Nat → Int32))) (v2_1 t_state_2 t_at_2 : Int32) (t_length2 : Nat → Int32) : Option (Int32 × Int32 × Int32 × (Nat → Int32)) :=
(if y1 ≤ v2_1 then
some (v2_1, t_state_2, t_at_2, t_length2)
else
(if (19 : Int32) ≤ v2_1 then
some (v2_1, t_state_2, t_at_2, t_length2)
else
(if t_state_2 = (-1 : Int32) then
bnd3 (m_Reader_takeBits F t_at_2 t_bitCount t_coded t_state_2 (3 : Int32)) fun r2 t_state_4 t_at_4 =>
bnd1 (if r2 = (-1 : Int32) then
some t_length2
else
chk (inb v2_1 (tn 4)) <| chk (inb (tb 4 v2_1.toNatClampNeg) 318) <| nm (upd t_length2 (tb 4 v2_1.toNatClampNeg).toNatClampNeg r2) fun t_length5 => some t_length5) fun t_length4 =>
nm (v2_1 + Int32.ofInt (1)) fun y2 => rec y2 t_state_4 t_at_4 t_length4
else
some (v2_1, t_state_2, t_at_2, t_length2))))
def L_Reader_readLengthsCode_18 (F : Nat) (t_bitCount : Int32) (t_coded : Nat → Int32) (y1 : Int32) : Nat → Int32 → Int32 → Int32 → (Nat → Int32) → Option (Int32 × Int32 × Int32 × (Nat → Int32))
  | 0 => fun _ _ _ _ => none
  | f + 1 => fun v2_1 t_state_2 t_at_2 t_length2 => B_Reader_readLengthsCode_18 F t_bitCount t_coded y1 (L_Reader_readLengthsCode_18 F t_bitCount t_coded y1 f) v2_1 t_state_2 t_at_2 t_length2
def m_Reader_readLengthsCode (F : Nat) (t_at t_bitCount t_blockBit : Int32) (t_coded t_length : Nat → Int32) (t_ownLengths_codes t_ownLengths_free t_ownLengths_longest : Int32) (t_ownLengths_next t_ownLengths_perLength t_ownLengths_symbol : Nat → Int32) (t_state t_stopBit : Int32) : Option (Int32 × Int32 × Int32 × (Nat → Int32) × Int32 × Int32 × Int32 × (Nat → Int32) × (Nat → Int32) × (Nat → Int32)) :=
bnd3 (m_Reader_takeBits F t_at t_bitCount t_coded t_state (4 : Int32)) fun r1 t_state_1 t_at_1 =>
nm (r1 + (4 : Int32)) fun y1 => bnd1 (m_JA_fill2 F 318 t_length (0 : Int32)) fun t_length1 =>
bnd4 (L_Reader_readLengthsCode_18 F t_bitCount t_coded y1 F (0 : Int32) t_state_1 t_at_1 t_length1) fun v2_3 t_state_5 t_at_5 t_length6 =>
(if t_state_5 = (-1 : Int32) then
bnd6 (m_CodeSet_make F 318 19 t_length6 t_ownLengths_next t_ownLengths_perLength t_ownLengths_symbol (0 : Int32) (19 : Int32)) fun t_ownLengths_codes_1 t_ownLengths_longest_1 t_ownLengths_free_1 t_ownLengths_next1 t_ownLengths_perLength1 t_ownLengths_symbol1 =>
bnd1 (m_CodeSet_isFull F t_ownLengths_free_1) fun r3 =>
(if r3 = (0 : Int32) then
bnd2 (m_Reader_breakAt F t_blockBit) fun t_stopBit_1 t_state_6 =>
some (t_stopBit_1, t_state_6, t_at_5, t_length6, t_ownLengths_codes_1, t_ownLengths_longest_1, t_ownLengths_free_1, t_ownLengths_next1, t_ownLengths_perLength1, t_ownLengths_symbol1)
else
some (t_stopBit, t_state_5, t_at_5, t_length6, t_ownLengths_codes_1, t_ownLengths_longest_1, t_ownLengths_free_1, t_ownLengths_next1, t_ownLengths_perLength1, t_ownLengths_symbol1))
else
some (t_stopBit, t_state_5, t_at_5, t_length6, t_ownLengths_codes, t_ownLengths_longest, t_ownLengths_free, t_ownLengths_next, t_ownLengths_perLength, t_ownLengths_symbol))
def B_Reader_findSymbol_10 (F : Nat) (n_p1 : Nat) (p1_longest : Int32) (p1_perLength p1_symbol : Nat → Int32) (t_bitCount : Int32) (t_coded : Nat → Int32) (rec : Int32 → Int32 → Int32 → Int32 → Int32 → Int32 → Option ((Option Int32) × Int32 × Int32 × Int32 × Int32 × Int32 × Int32)) (v2_1 v3_1 v4_1 v5_1 t_state_1 t_at_1 : Int32) : Option ((Option Int32) × Int32 × Int32 × Int32 × Int32 × Int32 × Int32) :=
(if p1_longest < v5_1 then
some (none, v2_1, v3_1, v4_1, v5_1, t_state_1, t_at_1)
else
bnd3 (m_Reader_takeBits F t_at_1 t_bitCount t_coded t_state_1 (1 : Int32)) fun r1 t_state_3 t_at_3 =>
(if r1 = (-1 : Int32) then
some (some (-1 : Int32), v2_1, v3_1, v4_1, v5_1, t_state_3, t_at_3)
else
nm (((2 : Int32) * v2_1) + r1) fun y1 => nm ((2 : Int32) * v3_1) fun y2 => nm ((v4_1 + y1) - y2) fun y3 => chk (inb v5_1 16) <| (if (p1_perLength v5_1.toNatClampNeg) ≤ (y1 - y2) then
chk (inb v5_1 16) <| nm (y2 + (p1_perLength v5_1.toNatClampNeg)) fun y4 => chk (inb v5_1 16) <| nm (v4_1 + (p1_perLength v5_1.toNatClampNeg)) fun y5 => nm (v5_1 + Int32.ofInt (1)) fun y6 => rec y1 y4 y5 y6 t_state_3 t_at_3
else
(if y3 < (0 : Int32) then
chk (inb v5_1 16) <| nm (y2 + (p1_perLength v5_1.toNatClampNeg)) fun y7 => chk (inb v5_1 16) <| nm (v4_1 + (p1_perLength v5_1.toNatClampNeg)) fun y8 => nm (v5_1 + Int32.ofInt (1)) fun y9 => rec y1 y7 y8 y9 t_state_3 t_at_3
else
(if (nI n_p1) ≤ y3 then
chk (inb v5_1 16) <| nm (y2 + (p1_perLength v5_1.toNatClampNeg)) fun y10 => chk (inb v5_1 16) <| nm (v4_1 + (p1_perLength v5_1.toNatClampNeg)) fun y11 => nm (v5_1 + Int32.ofInt (1)) fun y12 => rec y1 y10 y11 y12 t_state_3 t_at_3
else
chk (inb y3 n_p1) <| some (some (p1_symbol y3.toNatClampNeg), y1, y2, v4_1, v5_1, t_state_3, t_at_3))))))
def L_Reader_findSymbol_10 (F : Nat) (n_p1 : Nat) (p1_longest : Int32) (p1_perLength p1_symbol : Nat → Int32) (t_bitCount : Int32) (t_coded : Nat → Int32) : Nat → Int32 → Int32 → Int32 → Int32 → Int32 → Int32 → Option ((Option Int32) × Int32 × Int32 × Int32 × Int32 × Int32 × Int32)
  | 0 => fun _ _ _ _ _ _ => none
  | f + 1 => fun v2_1 v3_1 v4_1 v5_1 t_state_1 t_at_1 => B_Reader_findSymbol_10 F n_p1 p1_longest p1_perLength p1_symbol t_bitCount t_coded (L_Reader_findSymbol_10 F n_p1 p1_longest p1_perLength p1_symbol t_bitCount t_coded f) v2_1 v3_1 v4_1 v5_1 t_state_1 t_at_1
def m_Reader_findSymbol (F : Nat) (n_p1 : Nat) (p1_longest : Int32) (p1_perLength p1_symbol : Nat → Int32) (t_at t_bitCount : Int32) (t_coded : Nat → Int32) (t_state : Int32) : Option (Int32 × Int32 × Int32) :=
bnd7 (L_Reader_findSymbol_10 F n_p1 p1_longest p1_perLength p1_symbol t_bitCount t_coded F (0 : Int32) (0 : Int32) (0 : Int32) (1 : Int32) t_state t_at) fun rr2 v2_3 v3_3 v4_3 v5_3 t_state_4 t_at_4 =>
orc rr2 (fun r2 => some (r2, t_state_4, t_at_4)) (
some ((-2 : Int32), t_state_4, t_at_4))
def B_Reader_readLengths_143 (F : Nat) (y1 z2 : Int32) (rec : Int32 → (Nat → Int32) → Option (Int32 × (Nat → Int32))) (v8_1 : Int32) (t_length1 : Nat → Int32) : Option (Int32 × (Nat → Int32)) :=
(if y1 ≤ v8_1 then
some (v8_1, t_length1)
else
chk (inb v8_1 318) <| nm (upd t_length1 v8_1.toNatClampNeg z2) fun t_length3 => nm (v8_1 + Int32.ofInt (1)) fun y2 => rec y2 t_length3)
def L_Reader_readLengths_143 (F : Nat) (y1 z2 : Int32) : Nat → Int32 → (Nat → Int32) → Option (Int32 × (Nat → Int32))
  | 0 => fun _ _ => none
  | f + 1 => fun v8_1 t_length1 => B_Reader_readLengths_143 F y1 z2 (L_Reader_readLengths_143 F y1 z2 f) v8_1 t_length1
def B_Reader_readLengths_143x (F : Nat) (y3 z4 : Int32) (rec : Int32 → (Nat → Int32) → Option (Int32 × (Nat → Int32))) (v8_4 : Int32) (t_length6 : Nat → Int32) : Option (Int32 × (Nat → Int32)) :=
(if y3 ≤ v8_4 then
some (v8_4, t_length6)
else
chk (inb v8_4 318) <| nm (upd t_length6 v8_4.toNatClampNeg z4) fun t_length8 => nm (v8_4 + Int32.ofInt (1)) fun y4 => rec y4 t_length8)
def L_Reader_readLengths_143x (F : Nat) (y3 z4 : Int32) : Nat → Int32 → (Nat → Int32) → Option (Int32 × (Nat → Int32))
  | 0 => fun _ _ => none
  | f + 1 => fun v8_4 t_length6 => B_Reader_readLengths_143x F y3 z4 (L_Reader_readLengths_143x F y3 z4 f) v8_4 t_length6
def m_Reader_readLengths (F : Nat) (t_at t_bitCount : Int32) (t_coded t_length : Nat → Int32) (t_ownLengths_longest : Int32) (t_ownLengths_perLength t_ownLengths_symbol : Nat → Int32) (t_state t_stopBit x1 x2 : Int32) : Option (Int32 × Int32 × Int32 × Int32 × (Nat → Int32)) :=
bnd3 (m_Reader_findSymbol F 19 t_ownLengths_longest t_ownLengths_perLength t_ownLengths_symbol t_at t_bitCount t_coded t_state) fun r1 t_state_1 t_at_1 =>
(if t_state_1 = (-1 : Int32) then
(if r1 < (0 : Int32) then
bnd2 (m_Reader_breakAt F t_at) fun t_stopBit_1 t_state_2 =>
some (x1, t_stopBit_1, t_state_2, t_at_1, t_length)
else
(if r1 = (16 : Int32) then
(if x1 = (0 : Int32) then
bnd2 (m_Reader_breakAt F t_at) fun t_stopBit_2 t_state_3 =>
some (x1, t_stopBit_2, t_state_3, t_at_1, t_length)
else
(if (16 : Int32) ≤ r1 then
bnd1 (m_DE_repeatExtra F r1) fun r2 =>
bnd3 (m_Reader_takeBits F t_at_1 t_bitCount t_coded t_state_1 r2) fun r3 t_state_4 t_at_2 =>
(if r3 = (-1 : Int32) then
some (x1, t_stopBit, t_state_4, t_at_2, t_length)
else
bnd1 (if r1 = (18 : Int32) then
some (11 : Int32)
else
some (3 : Int32)) fun z1 =>
nm ((x1 + r3) + z1) fun y1 => (if y1 ≤ x2 then
bnd1 (if r1 = (16 : Int32) then
chk (inb (x1 - (1 : Int32)) 318) <| some (t_length (x1 - (1 : Int32)).toNatClampNeg)
else
some (0 : Int32)) fun z2 =>
bnd2 (L_Reader_readLengths_143 F y1 z2 F x1 t_length) fun v8_3 t_length4 =>
some (y1, t_stopBit, t_state_4, t_at_2, t_length4)
else
bnd2 (m_Reader_breakAt F t_at) fun t_stopBit_3 t_state_5 =>
some (x1, t_stopBit_3, t_state_5, t_at_2, t_length)))
else
chk (inb x1 318) <| nm (upd t_length x1.toNatClampNeg r1) fun t_length5 => some (x1 + (1 : Int32), t_stopBit, t_state_1, t_at_1, t_length5)))
else
(if (16 : Int32) ≤ r1 then
bnd1 (m_DE_repeatExtra F r1) fun r4 =>
bnd3 (m_Reader_takeBits F t_at_1 t_bitCount t_coded t_state_1 r4) fun r5 t_state_6 t_at_3 =>
(if r5 = (-1 : Int32) then
some (x1, t_stopBit, t_state_6, t_at_3, t_length)
else
bnd1 (if r1 = (18 : Int32) then
some (11 : Int32)
else
some (3 : Int32)) fun z3 =>
nm ((x1 + r5) + z3) fun y3 => (if y3 ≤ x2 then
bnd1 (if r1 = (16 : Int32) then
chk (inb (x1 - (1 : Int32)) 318) <| some (t_length (x1 - (1 : Int32)).toNatClampNeg)
else
some (0 : Int32)) fun z4 =>
bnd2 (L_Reader_readLengths_143x F y3 z4 F x1 t_length) fun v8_6 t_length9 =>
some (y3, t_stopBit, t_state_6, t_at_3, t_length9)
else
bnd2 (m_Reader_breakAt F t_at) fun t_stopBit_4 t_state_7 =>
some (x1, t_stopBit_4, t_state_7, t_at_3, t_length)))
else
chk (inb x1 318) <| nm (upd t_length x1.toNatClampNeg r1) fun t_length10 => some (x1 + (1 : Int32), t_stopBit, t_state_1, t_at_1, t_length10))))
else
some (x1, t_stopBit, t_state_1, t_at_1, t_length))
def B_Reader_readRow_14 (F : Nat) (t_bitCount : Int32) (t_coded : Nat → Int32) (t_ownLengths_longest : Int32) (t_ownLengths_perLength t_ownLengths_symbol : Nat → Int32) (y1 : Int32) (rec : Int32 → Int32 → Int32 → Int32 → Int32 → (Nat → Int32) → Option (Int32 × Int32 × Int32 × Int32 × Int32 × (Nat → Int32))) (v2_1 v3_1 t_stopBit_1 t_state_1 t_at_1 : Int32) (t_length1 : Nat → Int32) : Option (Int32 × Int32 × Int32 × Int32 × Int32 × (Nat → Int32)) :=
(if y1 ≤ v3_1 then
some (v2_1, v3_1, t_stopBit_1, t_state_1, t_at_1, t_length1)
else
(if y1 ≤ v2_1 then
some (v2_1, v3_1, t_stopBit_1, t_state_1, t_at_1, t_length1)
else
(if t_state_1 = (-1 : Int32) then
bnd5 (m_Reader_readLengths F t_at_1 t_bitCount t_coded t_length1 t_ownLengths_longest t_ownLengths_perLength t_ownLengths_symbol t_state_1 t_stopBit_1 v2_1 y1) fun r1 t_stopBit_3 t_state_3 t_at_3 t_length3 =>
nm (v3_1 + Int32.ofInt (1)) fun y2 => rec r1 y2 t_stopBit_3 t_state_3 t_at_3 t_length3
else
some (v2_1, v3_1, t_stopBit_1, t_state_1, t_at_1, t_length1))))
def L_Reader_readRow_14 (F : Nat) (t_bitCount : Int32) (t_coded : Nat → Int32) (t_ownLengths_longest : Int32) (t_ownLengths_perLength t_ownLengths_symbol : Nat → Int32) (y1 : Int32) : Nat → Int32 → Int32 → Int32 → Int32 → Int32 → (Nat → Int32) → Option (Int32 × Int32 × Int32 × Int32 × Int32 × (Nat → Int32))
  | 0 => fun _ _ _ _ _ _ => none
  | f + 1 => fun v2_1 v3_1 t_stopBit_1 t_state_1 t_at_1 t_length1 => B_Reader_readRow_14 F t_bitCount t_coded t_ownLengths_longest t_ownLengths_perLength t_ownLengths_symbol y1 (L_Reader_readRow_14 F t_bitCount t_coded t_ownLengths_longest t_ownLengths_perLength t_ownLengths_symbol y1 f) v2_1 v3_1 t_stopBit_1 t_state_1 t_at_1 t_length1
def m_Reader_readRow (F : Nat) (t_at t_bitCount t_blockBit : Int32) (t_coded : Nat → Int32) (t_distanceLengths : Int32) (t_length : Nat → Int32) (t_literalLengths t_ownDistances_codes t_ownDistances_free t_ownDistances_longest : Int32) (t_ownDistances_next t_ownDistances_perLength t_ownDistances_symbol : Nat → Int32) (t_ownLengths_longest : Int32) (t_ownLengths_perLength t_ownLengths_symbol : Nat → Int32) (t_ownLiterals_codes t_ownLiterals_free t_ownLiterals_longest : Int32) (t_ownLiterals_next t_ownLiterals_perLength t_ownLiterals_symbol : Nat → Int32) (t_state t_stopBit : Int32) : Option (Int32 × Int32 × Int32 × (Nat → Int32) × Int32 × Int32 × Int32 × (Nat → Int32) × (Nat → Int32) × (Nat → Int32) × Int32 × Int32 × Int32 × (Nat → Int32) × (Nat → Int32) × (Nat → Int32)) :=
nm (t_literalLengths + t_distanceLengths) fun y1 => bnd6 (L_Reader_readRow_14 F t_bitCount t_coded t_ownLengths_longest t_ownLengths_perLength t_ownLengths_symbol y1 F (0 : Int32) (0 : Int32) t_stopBit t_state t_at t_length) fun v2_3 v3_3 t_stopBit_4 t_state_4 t_at_4 t_length4 =>
(if t_state_4 = (-1 : Int32) then
bnd6 (m_CodeSet_make F 318 286 t_length4 t_ownLiterals_next t_ownLiterals_perLength t_ownLiterals_symbol (0 : Int32) t_literalLengths) fun t_ownLiterals_codes_1 t_ownLiterals_longest_1 t_ownLiterals_free_1 t_ownLiterals_next1 t_ownLiterals_perLength1 t_ownLiterals_symbol1 =>
bnd6 (m_CodeSet_make F 318 30 t_length4 t_ownDistances_next t_ownDistances_perLength t_ownDistances_symbol t_literalLengths t_distanceLengths) fun t_ownDistances_codes_1 t_ownDistances_longest_1 t_ownDistances_free_1 t_ownDistances_next1 t_ownDistances_perLength1 t_ownDistances_symbol1 =>
chk (inb (256 : Int32) 318) <| (if (t_length4 (256 : Int32).toNatClampNeg) = (0 : Int32) then
bnd2 (m_Reader_breakAt F t_blockBit) fun t_stopBit_5 t_state_5 =>
some (t_stopBit_5, t_state_5, t_at_4, t_length4, t_ownDistances_codes_1, t_ownDistances_longest_1, t_ownDistances_free_1, t_ownDistances_next1, t_ownDistances_perLength1, t_ownDistances_symbol1, t_ownLiterals_codes_1, t_ownLiterals_longest_1, t_ownLiterals_free_1, t_ownLiterals_next1, t_ownLiterals_perLength1, t_ownLiterals_symbol1)
else
bnd1 (m_CodeSet_isFull F t_ownLiterals_free_1) fun r2 =>
(if r2 = (0 : Int32) then
bnd2 (m_Reader_breakAt F t_blockBit) fun t_stopBit_6 t_state_6 =>
some (t_stopBit_6, t_state_6, t_at_4, t_length4, t_ownDistances_codes_1, t_ownDistances_longest_1, t_ownDistances_free_1, t_ownDistances_next1, t_ownDistances_perLength1, t_ownDistances_symbol1, t_ownLiterals_codes_1, t_ownLiterals_longest_1, t_ownLiterals_free_1, t_ownLiterals_next1, t_ownLiterals_perLength1, t_ownLiterals_symbol1)
else
bnd1 (m_CodeSet_mayStandForDistances F t_ownDistances_codes_1 t_ownDistances_free_1 t_ownDistances_longest_1) fun r3 =>
(if r3 = (0 : Int32) then
bnd2 (m_Reader_breakAt F t_blockBit) fun t_stopBit_7 t_state_7 =>
some (t_stopBit_7, t_state_7, t_at_4, t_length4, t_ownDistances_codes_1, t_ownDistances_longest_1, t_ownDistances_free_1, t_ownDistances_next1, t_ownDistances_perLength1, t_ownDistances_symbol1, t_ownLiterals_codes_1, t_ownLiterals_longest_1, t_ownLiterals_free_1, t_ownLiterals_next1, t_ownLiterals_perLength1, t_ownLiterals_symbol1)
else
some (t_stopBit_4, t_state_4, t_at_4, t_length4, t_ownDistances_codes_1, t_ownDistances_longest_1, t_ownDistances_free_1, t_ownDistances_next1, t_ownDistances_perLength1, t_ownDistances_symbol1, t_ownLiterals_codes_1, t_ownLiterals_longest_1, t_ownLiterals_free_1, t_ownLiterals_next1, t_ownLiterals_perLength1, t_ownLiterals_symbol1))))
else
some (t_stopBit_4, t_state_4, t_at_4, t_length4, t_ownDistances_codes, t_ownDistances_longest, t_ownDistances_free, t_ownDistances_next, t_ownDistances_perLength, t_ownDistances_symbol, t_ownLiterals_codes, t_ownLiterals_longest, t_ownLiterals_free, t_ownLiterals_next, t_ownLiterals_perLength, t_ownLiterals_symbol))
def m_Reader_addByte (F : Nat) (n_t : Nat) (t_inflated : Nat → Int32) (t_inflatedCount t_state x1 : Int32) : Option (Int32 × Int32 × (Nat → Int32)) :=
(if (nI n_t) ≤ t_inflatedCount then
some (t_inflatedCount, (3 : Int32), t_inflated)
else
chk (inb t_inflatedCount n_t) <| nm (upd t_inflated t_inflatedCount.toNatClampNeg x1) fun t_inflated1 => nm (t_inflatedCount + (1 : Int32)) fun y1 => some (y1, t_state, t_inflated1))
def B_Reader_readMatch_116 (F : Nat) (n_t : Nat) (y1 y2 : Int32) (rec : Int32 → Int32 → Int32 → (Nat → Int32) → Option (Int32 × Int32 × Int32 × (Nat → Int32))) (v10_1 t_inflatedCount_1 t_state_6 : Int32) (t_inflated1 : Nat → Int32) : Option (Int32 × Int32 × Int32 × (Nat → Int32)) :=
(if y1 ≤ v10_1 then
some (v10_1, t_inflatedCount_1, t_state_6, t_inflated1)
else
(if t_state_6 = (-1 : Int32) then
chk (inb (t_inflatedCount_1 - y2) n_t) <| bnd3 (m_Reader_addByte F n_t t_inflated1 t_inflatedCount_1 t_state_6 (t_inflated1 (t_inflatedCount_1 - y2).toNatClampNeg)) fun t_inflatedCount_3 t_state_8 t_inflated3 =>
nm (v10_1 + Int32.ofInt (1)) fun y3 => rec y3 t_inflatedCount_3 t_state_8 t_inflated3
else
some (v10_1, t_inflatedCount_1, t_state_6, t_inflated1)))
def L_Reader_readMatch_116 (F : Nat) (n_t : Nat) (y1 y2 : Int32) : Nat → Int32 → Int32 → Int32 → (Nat → Int32) → Option (Int32 × Int32 × Int32 × (Nat → Int32))
  | 0 => fun _ _ _ _ => none
  | f + 1 => fun v10_1 t_inflatedCount_1 t_state_6 t_inflated1 => B_Reader_readMatch_116 F n_t y1 y2 (L_Reader_readMatch_116 F n_t y1 y2 f) v10_1 t_inflatedCount_1 t_state_6 t_inflated1
def m_Reader_readMatch (F : Nat) (n_p3 n_t : Nat) (p3_longest : Int32) (p3_perLength p3_symbol : Nat → Int32) (t_at t_bitCount : Int32) (t_coded t_inflated : Nat → Int32) (t_inflatedCount t_state t_stopBit x1 x2 : Int32) : Option (Int32 × Int32 × Int32 × Int32 × (Nat → Int32)) :=
chk (inb x1 (tn 1)) <| bnd3 (m_Reader_takeBits F t_at t_bitCount t_coded t_state (tb 1 x1.toNatClampNeg)) fun r1 t_state_1 t_at_1 =>
(if r1 = (-1 : Int32) then
some (t_inflatedCount, t_stopBit, t_state_1, t_at_1, t_inflated)
else
chk (inb x1 (tn 0)) <| nm ((tb 0 x1.toNatClampNeg) + r1) fun y1 => bnd3 (m_Reader_findSymbol F n_p3 p3_longest p3_perLength p3_symbol t_at_1 t_bitCount t_coded t_state_1) fun r2 t_state_2 t_at_2 =>
(if t_state_2 = (-1 : Int32) then
(if r2 < (0 : Int32) then
bnd2 (m_Reader_breakAt F t_at_1) fun t_stopBit_1 t_state_3 =>
some (t_inflatedCount, t_stopBit_1, t_state_3, t_at_2, t_inflated)
else
(if r2 < (30 : Int32) then
chk (inb r2 (tn 3)) <| bnd3 (m_Reader_takeBits F t_at_2 t_bitCount t_coded t_state_2 (tb 3 r2.toNatClampNeg)) fun r3 t_state_4 t_at_3 =>
(if r3 = (-1 : Int32) then
some (t_inflatedCount, t_stopBit, t_state_4, t_at_3, t_inflated)
else
chk (inb r2 (tn 2)) <| nm ((tb 2 r2.toNatClampNeg) + r3) fun y2 => bnd2 (if y2 ≤ t_inflatedCount then
some (t_stopBit, t_state_4)
else
bnd2 (m_Reader_breakAt F x2) fun t_stopBit_2 t_state_5 =>
some (t_stopBit_2, t_state_5)) fun z1 z2 =>
bnd4 (L_Reader_readMatch_116 F n_t y1 y2 F (0 : Int32) t_inflatedCount z2 t_inflated) fun v10_3 t_inflatedCount_4 t_state_9 t_inflated4 =>
some (t_inflatedCount_4, z1, t_state_9, t_at_3, t_inflated4))
else
bnd2 (m_Reader_breakAt F t_at_1) fun t_stopBit_3 t_state_10 =>
some (t_inflatedCount, t_stopBit_3, t_state_10, t_at_2, t_inflated)))
else
some (t_inflatedCount, t_stopBit, t_state_2, t_at_2, t_inflated)))
def B_Reader_readSymbols_5 (F : Nat) (n_p1 n_p2 n_t : Nat) (p1_longest : Int32) (p1_perLength p1_symbol : Nat → Int32) (p2_longest : Int32) (p2_perLength p2_symbol : Nat → Int32) (t_bitCount : Int32) (t_coded : Nat → Int32) (rec : Int32 → Int32 → Int32 → Int32 → Int32 → Int32 → (Nat → Int32) → Option (Int32 × Int32 × Int32 × Int32 × Int32 × Int32 × (Nat → Int32))) (v3_1 v4_1 t_inflatedCount_1 t_stopBit_1 t_state_1 t_at_1 : Int32) (t_inflated1 : Nat → Int32) : Option (Int32 × Int32 × Int32 × Int32 × Int32 × Int32 × (Nat → Int32)) :=
(if (9600 : Int32) ≤ v4_1 then
some (v3_1, v4_1, t_inflatedCount_1, t_stopBit_1, t_state_1, t_at_1, t_inflated1)
else
(if v3_1 = (256 : Int32) then
some (v3_1, v4_1, t_inflatedCount_1, t_stopBit_1, t_state_1, t_at_1, t_inflated1)
else
(if t_state_1 = (-1 : Int32) then
bnd3 (m_Reader_findSymbol F n_p1 p1_longest p1_perLength p1_symbol t_at_1 t_bitCount t_coded t_state_1) fun r1 t_state_3 t_at_3 =>
bnd5 (if t_state_3 = (-1 : Int32) then
(if r1 < (0 : Int32) then
bnd2 (m_Reader_breakAt F t_at_1) fun t_stopBit_3 t_state_4 =>
some (t_inflatedCount_1, t_stopBit_3, t_state_4, t_at_3, t_inflated1)
else
(if r1 < (286 : Int32) then
(if (256 : Int32) ≤ r1 then
(if r1 ≤ (256 : Int32) then
some (t_inflatedCount_1, t_stopBit_1, t_state_3, t_at_3, t_inflated1)
else
bnd5 (m_Reader_readMatch F n_p2 n_t p2_longest p2_perLength p2_symbol t_at_3 t_bitCount t_coded t_inflated1 t_inflatedCount_1 t_state_3 t_stopBit_1 ((r1 - (256 : Int32)) - (1 : Int32)) t_at_1) fun t_inflatedCount_3 t_stopBit_4 t_state_5 t_at_4 t_inflated4 =>
some (t_inflatedCount_3, t_stopBit_4, t_state_5, t_at_4, t_inflated4))
else
bnd3 (m_Reader_addByte F n_t t_inflated1 t_inflatedCount_1 t_state_3 r1) fun t_inflatedCount_4 t_state_6 t_inflated5 =>
some (t_inflatedCount_4, t_stopBit_1, t_state_6, t_at_3, t_inflated5))
else
bnd2 (m_Reader_breakAt F t_at_1) fun t_stopBit_5 t_state_7 =>
some (t_inflatedCount_1, t_stopBit_5, t_state_7, t_at_3, t_inflated1)))
else
some (t_inflatedCount_1, t_stopBit_1, t_state_3, t_at_3, t_inflated1)) fun z1 z2 z3 z4 t_inflated3 =>
nm (v4_1 + Int32.ofInt (1)) fun y1 => rec r1 y1 z1 z2 z3 z4 t_inflated3
else
some (v3_1, v4_1, t_inflatedCount_1, t_stopBit_1, t_state_1, t_at_1, t_inflated1))))
def L_Reader_readSymbols_5 (F : Nat) (n_p1 n_p2 n_t : Nat) (p1_longest : Int32) (p1_perLength p1_symbol : Nat → Int32) (p2_longest : Int32) (p2_perLength p2_symbol : Nat → Int32) (t_bitCount : Int32) (t_coded : Nat → Int32) : Nat → Int32 → Int32 → Int32 → Int32 → Int32 → Int32 → (Nat → Int32) → Option (Int32 × Int32 × Int32 × Int32 × Int32 × Int32 × (Nat → Int32))
  | 0 => fun _ _ _ _ _ _ _ => none
  | f + 1 => fun v3_1 v4_1 t_inflatedCount_1 t_stopBit_1 t_state_1 t_at_1 t_inflated1 => B_Reader_readSymbols_5 F n_p1 n_p2 n_t p1_longest p1_perLength p1_symbol p2_longest p2_perLength p2_symbol t_bitCount t_coded (L_Reader_readSymbols_5 F n_p1 n_p2 n_t p1_longest p1_perLength p1_symbol p2_longest p2_perLength p2_symbol t_bitCount t_coded f) v3_1 v4_1 t_inflatedCount_1 t_stopBit_1 t_state_1 t_at_1 t_inflated1
def m_Reader_readSymbols (F : Nat) (n_p1 n_p2 n_t : Nat) (p1_longest : Int32) (p1_perLength p1_symbol : Nat → Int32) (p2_longest : Int32) (p2_perLength p2_symbol : Nat → Int32) (t_at t_bitCount : Int32) (t_coded t_inflated : Nat → Int32) (t_inflatedCount t_state t_stopBit : Int32) : Option (Int32 × Int32 × Int32 × Int32 × (Nat → Int32)) :=
bnd7 (L_Reader_readSymbols_5 F n_p1 n_p2 n_t p1_longest p1_perLength p1_symbol p2_longest p2_perLength p2_symbol t_bitCount t_coded F (-1 : Int32) (0 : Int32) t_inflatedCount t_stopBit t_state t_at t_inflated) fun v3_3 v4_3 t_inflatedCount_5 t_stopBit_6 t_state_8 t_at_5 t_inflated6 =>
some (t_inflatedCount_5, t_stopBit_6, t_state_8, t_at_5, t_inflated6)
def B_Reader_readStored_60 (F : Nat) (n_t : Nat) (r1 t_bitCount : Int32) (t_coded : Nat → Int32) (rec : Int32 → Int32 → Int32 → Int32 → (Nat → Int32) → Option (Int32 × Int32 × Int32 × Int32 × (Nat → Int32))) (v4_1 t_inflatedCount_1 t_state_4 t_at_3 : Int32) (t_inflated1 : Nat → Int32) : Option (Int32 × Int32 × Int32 × Int32 × (Nat → Int32)) :=
(if r1 ≤ v4_1 then
some (v4_1, t_inflatedCount_1, t_state_4, t_at_3, t_inflated1)
else
(if t_state_4 = (-1 : Int32) then
bnd3 (m_Reader_takeBits F t_at_3 t_bitCount t_coded t_state_4 (8 : Int32)) fun r3 t_state_6 t_at_5 =>
bnd3 (if r3 = (-1 : Int32) then
some (t_inflatedCount_1, t_state_6, t_inflated1)
else
bnd3 (m_Reader_addByte F n_t t_inflated1 t_inflatedCount_1 t_state_6 r3) fun t_inflatedCount_3 t_state_7 t_inflated4 =>
some (t_inflatedCount_3, t_state_7, t_inflated4)) fun z3 z4 t_inflated3 =>
nm (v4_1 + Int32.ofInt (1)) fun y2 => rec y2 z3 z4 t_at_5 t_inflated3
else
some (v4_1, t_inflatedCount_1, t_state_4, t_at_3, t_inflated1)))
def L_Reader_readStored_60 (F : Nat) (n_t : Nat) (r1 t_bitCount : Int32) (t_coded : Nat → Int32) : Nat → Int32 → Int32 → Int32 → Int32 → (Nat → Int32) → Option (Int32 × Int32 × Int32 × Int32 × (Nat → Int32))
  | 0 => fun _ _ _ _ _ => none
  | f + 1 => fun v4_1 t_inflatedCount_1 t_state_4 t_at_3 t_inflated1 => B_Reader_readStored_60 F n_t r1 t_bitCount t_coded (L_Reader_readStored_60 F n_t r1 t_bitCount t_coded f) v4_1 t_inflatedCount_1 t_state_4 t_at_3 t_inflated1
def m_Reader_readStored (F : Nat) (n_t : Nat) (t_at t_bitCount : Int32) (t_coded t_inflated : Nat → Int32) (t_inflatedCount t_state t_stopBit : Int32) : Option (Int32 × Int32 × Int32 × Int32 × (Nat → Int32)) :=
nm ((t_at + (7 : Int32)) &&& (-8 : Int32)) fun y1 => bnd3 (m_Reader_takeBits F y1 t_bitCount t_coded t_state (16 : Int32)) fun r1 t_state_1 t_at_1 =>
bnd3 (m_Reader_takeBits F t_at_1 t_bitCount t_coded t_state_1 (16 : Int32)) fun r2 t_state_2 t_at_2 =>
(if r1 = (-1 : Int32) then
some (t_inflatedCount, t_stopBit, t_state_2, t_at_2, t_inflated)
else
(if r2 = (-1 : Int32) then
some (t_inflatedCount, t_stopBit, t_state_2, t_at_2, t_inflated)
else
bnd2 (if (r1 ^^^ r2) = (65535 : Int32) then
some (t_stopBit, t_state_2)
else
bnd2 (m_Reader_breakAt F y1) fun t_stopBit_1 t_state_3 =>
some (t_stopBit_1, t_state_3)) fun z1 z2 =>
bnd5 (L_Reader_readStored_60 F n_t r1 t_bitCount t_coded F (0 : Int32) t_inflatedCount z2 t_at_2 t_inflated) fun v4_3 t_inflatedCount_4 t_state_8 t_at_6 t_inflated5 =>
some (t_inflatedCount_4, z1, t_state_8, t_at_6, t_inflated5)))
def m_Reader_readBlock (F : Nat) (n_t : Nat) (t_at t_bitCount : Int32) (t_coded : Nat → Int32) (t_distanceLengths t_fixedDistances_longest : Int32) (t_fixedDistances_perLength t_fixedDistances_symbol : Nat → Int32) (t_fixedLiterals_longest : Int32) (t_fixedLiterals_perLength t_fixedLiterals_symbol t_inflated : Nat → Int32) (t_inflatedCount : Int32) (t_length : Nat → Int32) (t_literalLengths t_ownDistances_codes t_ownDistances_free t_ownDistances_longest : Int32) (t_ownDistances_next t_ownDistances_perLength t_ownDistances_symbol : Nat → Int32) (t_ownLengths_codes t_ownLengths_free t_ownLengths_longest : Int32) (t_ownLengths_next t_ownLengths_perLength t_ownLengths_symbol : Nat → Int32) (t_ownLiterals_codes t_ownLiterals_free t_ownLiterals_longest : Int32) (t_ownLiterals_next t_ownLiterals_perLength t_ownLiterals_symbol : Nat → Int32) (t_state t_stopBit : Int32) : Option (Int32 × Int32 × Int32 × Int32 × Int32 × Int32 × Int32 × (Nat → Int32) × (Nat → Int32) × Int32 × Int32 × Int32 × (Nat → Int32) × (Nat → Int32) × (Nat → Int32) × Int32 × Int32 × Int32 × (Nat → Int32) × (Nat → Int32) × (Nat → Int32) × Int32 × Int32 × Int32 × (Nat → Int32) × (Nat → Int32) × (Nat → Int32)) :=
bnd3 (m_Reader_takeBits F t_at t_bitCount t_coded t_state (3 : Int32)) fun r1 t_state_1 t_at_1 =>
(if r1 = (-1 : Int32) then
some (t_inflatedCount, t_stopBit, t_state_1, t_at_1, t_at, t_literalLengths, t_distanceLengths, t_inflated, t_length, t_ownDistances_codes, t_ownDistances_longest, t_ownDistances_free, t_ownDistances_next, t_ownDistances_perLength, t_ownDistances_symbol, t_ownLengths_codes, t_ownLengths_longest, t_ownLengths_free, t_ownLengths_next, t_ownLengths_perLength, t_ownLengths_symbol, t_ownLiterals_codes, t_ownLiterals_longest, t_ownLiterals_free, t_ownLiterals_next, t_ownLiterals_perLength, t_ownLiterals_symbol)
else
nm (r1 >>> ((1 : Int32) &&& 31)) fun y1 => bnd26 (if y1 = (0 : Int32) then
bnd5 (m_Reader_readStored F n_t t_at_1 t_bitCount t_coded t_inflated t_inflatedCount t_state_1 t_stopBit) fun t_inflatedCount_1 t_stopBit_1 t_state_2 t_at_2 t_inflated2 =>
some (t_inflatedCount_1, t_stopBit_1, t_state_2, t_at_2, t_literalLengths, t_distanceLengths, t_inflated2, t_length, t_ownDistances_codes, t_ownDistances_longest, t_ownDistances_free, t_ownDistances_next, t_ownDistances_perLength, t_ownDistances_symbol, t_ownLengths_codes, t_ownLengths_longest, t_ownLengths_free, t_ownLengths_next, t_ownLengths_perLength, t_ownLengths_symbol, t_ownLiterals_codes, t_ownLiterals_longest, t_ownLiterals_free, t_ownLiterals_next, t_ownLiterals_perLength, t_ownLiterals_symbol)
else
(if y1 = (1 : Int32) then
bnd5 (m_Reader_readSymbols F 288 32 n_t t_fixedLiterals_longest t_fixedLiterals_perLength t_fixedLiterals_symbol t_fixedDistances_longest t_fixedDistances_perLength t_fixedDistances_symbol t_at_1 t_bitCount t_coded t_inflated t_inflatedCount t_state_1 t_stopBit) fun t_inflatedCount_2 t_stopBit_2 t_state_3 t_at_3 t_inflated3 =>
some (t_inflatedCount_2, t_stopBit_2, t_state_3, t_at_3, t_literalLengths, t_distanceLengths, t_inflated3, t_length, t_ownDistances_codes, t_ownDistances_longest, t_ownDistances_free, t_ownDistances_next, t_ownDistances_perLength, t_ownDistances_symbol, t_ownLengths_codes, t_ownLengths_longest, t_ownLengths_free, t_ownLengths_next, t_ownLengths_perLength, t_ownLengths_symbol, t_ownLiterals_codes, t_ownLiterals_longest, t_ownLiterals_free, t_ownLiterals_next, t_ownLiterals_perLength, t_ownLiterals_symbol)
else
(if y1 = (2 : Int32) then
bnd5 (m_Reader_readNumbers F t_at_1 t_bitCount t_coded t_state_1 t_stopBit) fun t_stopBit_3 t_state_4 t_at_4 t_literalLengths_1 t_distanceLengths_1 =>
bnd10 (m_Reader_readLengthsCode F t_at_4 t_bitCount t_at t_coded t_length t_ownLengths_codes t_ownLengths_free t_ownLengths_longest t_ownLengths_next t_ownLengths_perLength t_ownLengths_symbol t_state_4 t_stopBit_3) fun t_stopBit_4 t_state_5 t_at_5 t_length2 t_ownLengths_codes_1 t_ownLengths_longest_1 t_ownLengths_free_1 t_ownLengths_next2 t_ownLengths_perLength2 t_ownLengths_symbol2 =>
bnd16 (m_Reader_readRow F t_at_5 t_bitCount t_at t_coded t_distanceLengths_1 t_length2 t_literalLengths_1 t_ownDistances_codes t_ownDistances_free t_ownDistances_longest t_ownDistances_next t_ownDistances_perLength t_ownDistances_symbol t_ownLengths_longest_1 t_ownLengths_perLength2 t_ownLengths_symbol2 t_ownLiterals_codes t_ownLiterals_free t_ownLiterals_longest t_ownLiterals_next t_ownLiterals_perLength t_ownLiterals_symbol t_state_5 t_stopBit_4) fun t_stopBit_5 t_state_6 t_at_6 t_length3 t_ownDistances_codes_1 t_ownDistances_longest_1 t_ownDistances_free_1 t_ownDistances_next2 t_ownDistances_perLength2 t_ownDistances_symbol2 t_ownLiterals_codes_1 t_ownLiterals_longest_1 t_ownLiterals_free_1 t_ownLiterals_next2 t_ownLiterals_perLength2 t_ownLiterals_symbol2 =>
bnd5 (m_Reader_readSymbols F 286 30 n_t t_ownLiterals_longest_1 t_ownLiterals_perLength2 t_ownLiterals_symbol2 t_ownDistances_longest_1 t_ownDistances_perLength2 t_ownDistances_symbol2 t_at_6 t_bitCount t_coded t_inflated t_inflatedCount t_state_6 t_stopBit_5) fun t_inflatedCount_3 t_stopBit_6 t_state_7 t_at_7 t_inflated4 =>
some (t_inflatedCount_3, t_stopBit_6, t_state_7, t_at_7, t_literalLengths_1, t_distanceLengths_1, t_inflated4, t_length3, t_ownDistances_codes_1, t_ownDistances_longest_1, t_ownDistances_free_1, t_ownDistances_next2, t_ownDistances_perLength2, t_ownDistances_symbol2, t_ownLengths_codes_1, t_ownLengths_longest_1, t_ownLengths_free_1, t_ownLengths_next2, t_ownLengths_perLength2, t_ownLengths_symbol2, t_ownLiterals_codes_1, t_ownLiterals_longest_1, t_ownLiterals_free_1, t_ownLiterals_next2, t_ownLiterals_perLength2, t_ownLiterals_symbol2)
else
bnd2 (m_Reader_breakAt F t_at) fun t_stopBit_7 t_state_8 =>
some (t_inflatedCount, t_stopBit_7, t_state_8, t_at_1, t_literalLengths, t_distanceLengths, t_inflated, t_length, t_ownDistances_codes, t_ownDistances_longest, t_ownDistances_free, t_ownDistances_next, t_ownDistances_perLength, t_ownDistances_symbol, t_ownLengths_codes, t_ownLengths_longest, t_ownLengths_free, t_ownLengths_next, t_ownLengths_perLength, t_ownLengths_symbol, t_ownLiterals_codes, t_ownLiterals_longest, t_ownLiterals_free, t_ownLiterals_next, t_ownLiterals_perLength, t_ownLiterals_symbol)))) fun z1 z2 z3 z4 z5 z6 t_inflated1 t_length1 z7 z8 z9 t_ownDistances_next1 t_ownDistances_perLength1 t_ownDistances_symbol1 z10 z11 z12 t_ownLengths_next1 t_ownLengths_perLength1 t_ownLengths_symbol1 z13 z14 z15 t_ownLiterals_next1 t_ownLiterals_perLength1 t_ownLiterals_symbol1 =>
(if z3 = (-1 : Int32) then
(if (r1 &&& (1 : Int32)) = (1 : Int32) then
some (z1, z4, (1 : Int32), z4, t_at, z5, z6, t_inflated1, t_length1, z7, z8, z9, t_ownDistances_next1, t_ownDistances_perLength1, t_ownDistances_symbol1, z10, z11, z12, t_ownLengths_next1, t_ownLengths_perLength1, t_ownLengths_symbol1, z13, z14, z15, t_ownLiterals_next1, t_ownLiterals_perLength1, t_ownLiterals_symbol1)
else
some (z1, z2, z3, z4, t_at, z5, z6, t_inflated1, t_length1, z7, z8, z9, t_ownDistances_next1, t_ownDistances_perLength1, t_ownDistances_symbol1, z10, z11, z12, t_ownLengths_next1, t_ownLengths_perLength1, t_ownLengths_symbol1, z13, z14, z15, t_ownLiterals_next1, t_ownLiterals_perLength1, t_ownLiterals_symbol1))
else
some (z1, z2, z3, z4, t_at, z5, z6, t_inflated1, t_length1, z7, z8, z9, t_ownDistances_next1, t_ownDistances_perLength1, t_ownDistances_symbol1, z10, z11, z12, t_ownLengths_next1, t_ownLengths_perLength1, t_ownLengths_symbol1, z13, z14, z15, t_ownLiterals_next1, t_ownLiterals_perLength1, t_ownLiterals_symbol1)))
def B_Reader_readAll_7 (F : Nat) (n_t : Nat) (t_bitCount_1 : Int32) (t_coded : Nat → Int32) (t_fixedDistances_longest : Int32) (t_fixedDistances_perLength t_fixedDistances_symbol : Nat → Int32) (t_fixedLiterals_longest : Int32) (t_fixedLiterals_perLength t_fixedLiterals_symbol : Nat → Int32) (rec : Int32 → Int32 → Int32 → Int32 → Int32 → Int32 → Int32 → Int32 → (Nat → Int32) → (Nat → Int32) → Int32 → Int32 → Int32 → (Nat → Int32) → (Nat → Int32) → (Nat → Int32) → Int32 → Int32 → Int32 → (Nat → Int32) → (Nat → Int32) → (Nat → Int32) → Int32 → Int32 → Int32 → (Nat → Int32) → (Nat → Int32) → (Nat → Int32) → Option (Int32 × Int32 × Int32 × Int32 × Int32 × Int32 × Int32 × Int32 × (Nat → Int32) × (Nat → Int32) × Int32 × Int32 × Int32 × (Nat → Int32) × (Nat → Int32) × (Nat → Int32) × Int32 × Int32 × Int32 × (Nat → Int32) × (Nat → Int32) × (Nat → Int32) × Int32 × Int32 × Int32 × (Nat → Int32) × (Nat → Int32) × (Nat → Int32))) (v2_1 t_inflatedCount_2 t_stopBit_2 t_state_2 t_at_2 t_blockBit_1 t_literalLengths_1 t_distanceLengths_1 : Int32) (t_inflated1 t_length1 : Nat → Int32) (t_ownDistances_codes_1 t_ownDistances_longest_1 t_ownDistances_free_1 : Int32) (t_ownDistances_next1 t_ownDistances_perLength1 t_ownDistances_symbol1 : Nat → Int32) (t_ownLengths_codes_1 t_ownLengths_longest_1 t_ownLengths_free_1 : Int32) (t_ownLengths_next1 t_ownLengths_perLength1 t_ownLengths_symbol1 : Nat → Int32) (t_ownLiterals_codes_1 t_ownLiterals_longest_1 t_ownLiterals_free_1 : Int32) (t_ownLiterals_next1 t_ownLiterals_perLength1 t_ownLiterals_symbol1 : Nat → Int32) : Option (Int32 × Int32 × Int32 × Int32 × Int32 × Int32 × Int32 × Int32 × (Nat → Int32) × (Nat → Int32) × Int32 × Int32 × Int32 × (Nat → Int32) × (Nat → Int32) × (Nat → Int32) × Int32 × Int32 × Int32 × (Nat → Int32) × (Nat → Int32) × (Nat → Int32) × Int32 × Int32 × Int32 × (Nat → Int32) × (Nat → Int32) × (Nat → Int32)) :=
(if (9600 : Int32) ≤ v2_1 then
some (v2_1, t_inflatedCount_2, t_stopBit_2, t_state_2, t_at_2, t_blockBit_1, t_literalLengths_1, t_distanceLengths_1, t_inflated1, t_length1, t_ownDistances_codes_1, t_ownDistances_longest_1, t_ownDistances_free_1, t_ownDistances_next1, t_ownDistances_perLength1, t_ownDistances_symbol1, t_ownLengths_codes_1, t_ownLengths_longest_1, t_ownLengths_free_1, t_ownLengths_next1, t_ownLengths_perLength1, t_ownLengths_symbol1, t_ownLiterals_codes_1, t_ownLiterals_longest_1, t_ownLiterals_free_1, t_ownLiterals_next1, t_ownLiterals_perLength1, t_ownLiterals_symbol1)
else
(if t_state_2 = (-1 : Int32) then
bnd27 (m_Reader_readBlock F n_t t_at_2 t_bitCount_1 t_coded t_distanceLengths_1 t_fixedDistances_longest t_fixedDistances_perLength t_fixedDistances_symbol t_fixedLiterals_longest t_fixedLiterals_perLength t_fixedLiterals_symbol t_inflated1 t_inflatedCount_2 t_length1 t_literalLengths_1 t_ownDistances_codes_1 t_ownDistances_free_1 t_ownDistances_longest_1 t_ownDistances_next1 t_ownDistances_perLength1 t_ownDistances_symbol1 t_ownLengths_codes_1 t_ownLengths_free_1 t_ownLengths_longest_1 t_ownLengths_next1 t_ownLengths_perLength1 t_ownLengths_symbol1 t_ownLiterals_codes_1 t_ownLiterals_free_1 t_ownLiterals_longest_1 t_ownLiterals_next1 t_ownLiterals_perLength1 t_ownLiterals_symbol1 t_state_2 t_stopBit_2) fun t_inflatedCount_4 t_stopBit_4 t_state_4 t_at_4 t_blockBit_3 t_literalLengths_3 t_distanceLengths_3 t_inflated3 t_length3 t_ownDistances_codes_3 t_ownDistances_longest_3 t_ownDistances_free_3 t_ownDistances_next3 t_ownDistances_perLength3 t_ownDistances_symbol3 t_ownLengths_codes_3 t_ownLengths_longest_3 t_ownLengths_free_3 t_ownLengths_next3 t_ownLengths_perLength3 t_ownLengths_symbol3 t_ownLiterals_codes_3 t_ownLiterals_longest_3 t_ownLiterals_free_3 t_ownLiterals_next3 t_ownLiterals_perLength3 t_ownLiterals_symbol3 =>
nm (v2_1 + Int32.ofInt (1)) fun y1 => rec y1 t_inflatedCount_4 t_stopBit_4 t_state_4 t_at_4 t_blockBit_3 t_literalLengths_3 t_distanceLengths_3 t_inflated3 t_length3 t_ownDistances_codes_3 t_ownDistances_longest_3 t_ownDistances_free_3 t_ownDistances_next3 t_ownDistances_perLength3 t_ownDistances_symbol3 t_ownLengths_codes_3 t_ownLengths_longest_3 t_ownLengths_free_3 t_ownLengths_next3 t_ownLengths_perLength3 t_ownLengths_symbol3 t_ownLiterals_codes_3 t_ownLiterals_longest_3 t_ownLiterals_free_3 t_ownLiterals_next3 t_ownLiterals_perLength3 t_ownLiterals_symbol3
else
some (v2_1, t_inflatedCount_2, t_stopBit_2, t_state_2, t_at_2, t_blockBit_1, t_literalLengths_1, t_distanceLengths_1, t_inflated1, t_length1, t_ownDistances_codes_1, t_ownDistances_longest_1, t_ownDistances_free_1, t_ownDistances_next1, t_ownDistances_perLength1, t_ownDistances_symbol1, t_ownLengths_codes_1, t_ownLengths_longest_1, t_ownLengths_free_1, t_ownLengths_next1, t_ownLengths_perLength1, t_ownLengths_symbol1, t_ownLiterals_codes_1, t_ownLiterals_longest_1, t_ownLiterals_free_1, t_ownLiterals_next1, t_ownLiterals_perLength1, t_ownLiterals_symbol1)))
def L_Reader_readAll_7 (F : Nat) (n_t : Nat) (t_bitCount_1 : Int32) (t_coded : Nat → Int32) (t_fixedDistances_longest : Int32) (t_fixedDistances_perLength t_fixedDistances_symbol : Nat → Int32) (t_fixedLiterals_longest : Int32) (t_fixedLiterals_perLength t_fixedLiterals_symbol : Nat → Int32) : Nat → Int32 → Int32 → Int32 → Int32 → Int32 → Int32 → Int32 → Int32 → (Nat → Int32) → (Nat → Int32) → Int32 → Int32 → Int32 → (Nat → Int32) → (Nat → Int32) → (Nat → Int32) → Int32 → Int32 → Int32 → (Nat → Int32) → (Nat → Int32) → (Nat → Int32) → Int32 → Int32 → Int32 → (Nat → Int32) → (Nat → Int32) → (Nat → Int32) → Option (Int32 × Int32 × Int32 × Int32 × Int32 × Int32 × Int32 × Int32 × (Nat → Int32) × (Nat → Int32) × Int32 × Int32 × Int32 × (Nat → Int32) × (Nat → Int32) × (Nat → Int32) × Int32 × Int32 × Int32 × (Nat → Int32) × (Nat → Int32) × (Nat → Int32) × Int32 × Int32 × Int32 × (Nat → Int32) × (Nat → Int32) × (Nat → Int32))
  | 0 => fun _ _ _ _ _ _ _ _ _ _ _ _ _ _ _ _ _ _ _ _ _ _ _ _ _ _ _ _ => none
  | f + 1 => fun v2_1 t_inflatedCount_2 t_stopBit_2 t_state_2 t_at_2 t_blockBit_1 t_literalLengths_1 t_distanceLengths_1 t_inflated1 t_length1 t_ownDistances_codes_1 t_ownDistances_longest_1 t_ownDistances_free_1 t_ownDistances_next1 t_ownDistances_perLength1 t_ownDistances_symbol1 t_ownLengths_codes_1 t_ownLengths_longest_1 t_ownLengths_free_1 t_ownLengths_next1 t_ownLengths_perLength1 t_ownLengths_symbol1 t_ownLiterals_codes_1 t_ownLiterals_longest_1 t_ownLiterals_free_1 t_ownLiterals_next1 t_ownLiterals_perLength1 t_ownLiterals_symbol1 => B_Reader_readAll_7 F n_t t_bitCount_1 t_coded t_fixedDistances_longest t_fixedDistances_perLength t_fixedDistances_symbol t_fixedLiterals_longest t_fixedLiterals_perLength t_fixedLiterals_symbol (L_Reader_readAll_7 F n_t t_bitCount_1 t_coded t_fixedDistances_longest t_fixedDistances_perLength t_fixedDistances_symbol t_fixedLiterals_longest t_fixedLiterals_perLength t_fixedLiterals_symbol f) v2_1 t_inflatedCount_2 t_stopBit_2 t_state_2 t_at_2 t_blockBit_1 t_literalLengths_1 t_distanceLengths_1 t_inflated1 t_length1 t_ownDistances_codes_1 t_ownDistances_longest_1 t_ownDistances_free_1 t_ownDistances_next1 t_ownDistances_perLength1 t_ownDistances_symbol1 t_ownLengths_codes_1 t_ownLengths_longest_1 t_ownLengths_free_1 t_ownLengths_next1 t_ownLengths_perLength1 t_ownLengths_symbol1 t_ownLiterals_codes_1 t_ownLiterals_longest_1 t_ownLiterals_free_1 t_ownLiterals_next1 t_ownLiterals_perLength1 t_ownLiterals_symbol1
def m_Reader_readAll (F : Nat) (n_t : Nat) (t_blockBit : Int32) (t_coded : Nat → Int32) (t_distanceLengths t_fixedDistances_longest : Int32) (t_fixedDistances_perLength t_fixedDistances_symbol : Nat → Int32) (t_fixedLiterals_longest : Int32) (t_fixedLiterals_perLength t_fixedLiterals_symbol t_inflated t_length : Nat → Int32) (t_literalLengths t_ownDistances_codes t_ownDistances_free t_ownDistances_longest : Int32) (t_ownDistances_next t_ownDistances_perLength t_ownDistances_symbol : Nat → Int32) (t_ownLengths_codes t_ownLengths_free t_ownLengths_longest : Int32) (t_ownLengths_next t_ownLengths_perLength t_ownLengths_symbol : Nat → Int32) (t_ownLiterals_codes t_ownLiterals_free t_ownLiterals_longest : Int32) (t_ownLiterals_next t_ownLiterals_perLength t_ownLiterals_symbol : Nat → Int32) (x1 : Int32) : Option (Int32 × Int32 × Int32 × Int32 × Int32 × Int32 × Int32 × Int32 × Int32 × (Nat → Int32) × (Nat → Int32) × Int32 × Int32 × Int32 × (Nat → Int32) × (Nat → Int32) × (Nat → Int32) × Int32 × Int32 × Int32 × (Nat → Int32) × (Nat → Int32) × (Nat → Int32) × Int32 × Int32 × Int32 × (Nat → Int32) × (Nat → Int32) × (Nat → Int32)) :=
bnd5 (m_Reader_restart F x1) fun t_inflatedCount_1 t_stopBit_1 t_state_1 t_bitCount_1 t_at_1 =>
bnd28 (L_Reader_readAll_7 F n_t t_bitCount_1 t_coded t_fixedDistances_longest t_fixedDistances_perLength t_fixedDistances_symbol t_fixedLiterals_longest t_fixedLiterals_perLength t_fixedLiterals_symbol F (0 : Int32) t_inflatedCount_1 t_stopBit_1 t_state_1 t_at_1 t_blockBit t_literalLengths t_distanceLengths t_inflated t_length t_ownDistances_codes t_ownDistances_longest t_ownDistances_free t_ownDistances_next t_ownDistances_perLength t_ownDistances_symbol t_ownLengths_codes t_ownLengths_longest t_ownLengths_free t_ownLengths_next t_ownLengths_perLength t_ownLengths_symbol t_ownLiterals_codes t_ownLiterals_longest t_ownLiterals_free t_ownLiterals_next t_ownLiterals_perLength t_ownLiterals_symbol) fun v2_3 t_inflatedCount_5 t_stopBit_5 t_state_5 t_at_5 t_blockBit_4 t_literalLengths_4 t_distanceLengths_4 t_inflated4 t_length4 t_ownDistances_codes_4 t_ownDistances_longest_4 t_ownDistances_free_4 t_ownDistances_next4 t_ownDistances_perLength4 t_ownDistances_symbol4 t_ownLengths_codes_4 t_ownLengths_longest_4 t_ownLengths_free_4 t_ownLengths_next4 t_ownLengths_perLength4 t_ownLengths_symbol4 t_ownLiterals_codes_4 t_ownLiterals_longest_4 t_ownLiterals_free_4 t_ownLiterals_next4 t_ownLiterals_perLength4 t_ownLiterals_symbol4 =>
(if t_state_5 = (-1 : Int32) then
some ((0 : Int32), t_inflatedCount_5, t_stopBit_5, t_state_5, t_bitCount_1, t_at_5, t_blockBit_4, t_literalLengths_4, t_distanceLengths_4, t_inflated4, t_length4, t_ownDistances_codes_4, t_ownDistances_longest_4, t_ownDistances_free_4, t_ownDistances_next4, t_ownDistances_perLength4, t_ownDistances_symbol4, t_ownLengths_codes_4, t_ownLengths_longest_4, t_ownLengths_free_4, t_ownLengths_next4, t_ownLengths_perLength4, t_ownLengths_symbol4, t_ownLiterals_codes_4, t_ownLiterals_longest_4, t_ownLiterals_free_4, t_ownLiterals_next4, t_ownLiterals_perLength4, t_ownLiterals_symbol4)
else
some (t_state_5, t_inflatedCount_5, t_stopBit_5, t_state_5, t_bitCount_1, t_at_5, t_blockBit_4, t_literalLengths_4, t_distanceLengths_4, t_inflated4, t_length4, t_ownDistances_codes_4, t_ownDistances_longest_4, t_ownDistances_free_4, t_ownDistances_next4, t_ownDistances_perLength4, t_ownDistances_symbol4, t_ownLengths_codes_4, t_ownLengths_longest_4, t_ownLengths_free_4, t_ownLengths_next4, t_ownLengths_perLength4, t_ownLengths_symbol4, t_ownLiterals_codes_4, t_ownLiterals_longest_4, t_ownLiterals_free_4, t_ownLiterals_next4, t_ownLiterals_perLength4, t_ownLiterals_symbol4))
def m_Writer_restart (F : Nat) (t_came : Nat → Int32) : Option (Int32 × (Nat → Int32)) :=
bnd1 (m_JA_fill2 F 518 t_came (0 : Int32)) fun t_came1 =>
some ((0 : Int32), t_came1)
def m_Writer_byteCount (F : Nat) (t_bitCount : Int32) : Option (Int32) :=
some ((t_bitCount + (7 : Int32)) / (8 : Int32))
def m_Writer_cameAt (F : Nat) (t_came : Nat → Int32) (x1 : Int32) : Option (Int32) :=
chk (inb x1 518) <| some (t_came x1.toNatClampNeg)
def m_Writer_putBit (F : Nat) (t_bitCount : Int32) (t_came : Nat → Int32) (x1 : Int32) : Option (Int32 × (Nat → Int32)) :=
nm (t_bitCount >>> ((3 : Int32) &&& 31)) fun y1 => (if (nI 518) ≤ y1 then
some (t_bitCount, t_came)
else
chk (inb y1 518) <| chk (inb y1 518) <| nm (upd t_came y1.toNatClampNeg ((t_came y1.toNatClampNeg) ||| (x1 <<< ((t_bitCount &&& (7 : Int32)) &&& 31)))) fun t_came1 => nm (t_bitCount + (1 : Int32)) fun y2 => some (y2, t_came1))
def B_Writer_putBits_2 (F : Nat) (x1 x2 : Int32) (rec : Int32 → Int32 → (Nat → Int32) → Option (Int32 × Int32 × (Nat → Int32))) (v3_1 t_bitCount_1 : Int32) (t_came1 : Nat → Int32) : Option (Int32 × Int32 × (Nat → Int32)) :=
(if x2 ≤ v3_1 then
some (v3_1, t_bitCount_1, t_came1)
else
bnd2 (m_Writer_putBit F t_bitCount_1 t_came1 ((rx_us x1 v3_1) &&& (1 : Int32))) fun t_bitCount_3 t_came3 =>
nm (v3_1 + Int32.ofInt (1)) fun y1 => rec y1 t_bitCount_3 t_came3)
def L_Writer_putBits_2 (F : Nat) (x1 x2 : Int32) : Nat → Int32 → Int32 → (Nat → Int32) → Option (Int32 × Int32 × (Nat → Int32))
  | 0 => fun _ _ _ => none
  | f + 1 => fun v3_1 t_bitCount_1 t_came1 => B_Writer_putBits_2 F x1 x2 (L_Writer_putBits_2 F x1 x2 f) v3_1 t_bitCount_1 t_came1
def m_Writer_putBits (F : Nat) (t_bitCount : Int32) (t_came : Nat → Int32) (x1 x2 : Int32) : Option (Int32 × (Nat → Int32)) :=
bnd3 (L_Writer_putBits_2 F x1 x2 F (0 : Int32) t_bitCount t_came) fun v3_3 t_bitCount_4 t_came4 =>
some (t_bitCount_4, t_came4)
def B_Writer_putCode_4 (F : Nat) (x1 : Int32) (rec : Int32 → Int32 → (Nat → Int32) → Option (Int32 × Int32 × (Nat → Int32))) (v3_1 t_bitCount_1 : Int32) (t_came1 : Nat → Int32) : Option (Int32 × Int32 × (Nat → Int32)) :=
(if v3_1 < (0 : Int32) then
some (v3_1, t_bitCount_1, t_came1)
else
bnd2 (m_Writer_putBit F t_bitCount_1 t_came1 ((rx_us x1 v3_1) &&& (1 : Int32))) fun t_bitCount_3 t_came3 =>
nm (v3_1 + Int32.ofInt (-1)) fun y2 => rec y2 t_bitCount_3 t_came3)
def L_Writer_putCode_4 (F : Nat) (x1 : Int32) : Nat → Int32 → Int32 → (Nat → Int32) → Option (Int32 × Int32 × (Nat → Int32))
  | 0 => fun _ _ _ => none
  | f + 1 => fun v3_1 t_bitCount_1 t_came1 => B_Writer_putCode_4 F x1 (L_Writer_putCode_4 F x1 f) v3_1 t_bitCount_1 t_came1
def m_Writer_putCode (F : Nat) (t_bitCount : Int32) (t_came : Nat → Int32) (x1 x2 : Int32) : Option (Int32 × (Nat → Int32)) :=
nm (x2 - (1 : Int32)) fun y1 => bnd3 (L_Writer_putCode_4 F x1 F y1 t_bitCount t_came) fun v3_3 t_bitCount_4 t_came4 =>
some (t_bitCount_4, t_came4)
def B_Writer_putStored_50 (F : Nat) (n_p1 : Nat) (p1 : Nat → Int32) (x3 : Int32) (rec : Int32 → Int32 → (Nat → Int32) → Option (Int32 × Int32 × (Nat → Int32))) (v5_1 t_bitCount_5 : Int32) (t_came5 : Nat → Int32) : Option (Int32 × Int32 × (Nat → Int32)) :=
(if x3 ≤ v5_1 then
some (v5_1, t_bitCount_5, t_came5)
else
(if (nI n_p1) ≤ v5_1 then
some (v5_1, t_bitCount_5, t_came5)
else
chk (inb v5_1 n_p1) <| bnd2 (m_Writer_putBits F t_bitCount_5 t_came5 (p1 v5_1.toNatClampNeg) (8 : Int32)) fun t_bitCount_7 t_came7 =>
nm (v5_1 + Int32.ofInt (1)) fun y2 => rec y2 t_bitCount_7 t_came7))
def L_Writer_putStored_50 (F : Nat) (n_p1 : Nat) (p1 : Nat → Int32) (x3 : Int32) : Nat → Int32 → Int32 → (Nat → Int32) → Option (Int32 × Int32 × (Nat → Int32))
  | 0 => fun _ _ _ => none
  | f + 1 => fun v5_1 t_bitCount_5 t_came5 => B_Writer_putStored_50 F n_p1 p1 x3 (L_Writer_putStored_50 F n_p1 p1 x3 f) v5_1 t_bitCount_5 t_came5
def m_Writer_putStored (F : Nat) (n_p1 : Nat) (p1 : Nat → Int32) (t_bitCount : Int32) (t_came : Nat → Int32) (x2 x3 x4 : Int32) : Option (Int32 × (Nat → Int32)) :=
bnd2 (m_Writer_putBits F t_bitCount t_came x4 (1 : Int32)) fun t_bitCount_1 t_came1 =>
bnd2 (m_Writer_putBits F t_bitCount_1 t_came1 (0 : Int32) (2 : Int32)) fun t_bitCount_2 t_came2 =>
nm ((t_bitCount_2 + (7 : Int32)) &&& (-8 : Int32)) fun y1 => bnd2 (m_Writer_putBits F y1 t_came2 (x3 - x2) (16 : Int32)) fun t_bitCount_3 t_came3 =>
bnd2 (m_Writer_putBits F t_bitCount_3 t_came3 ((x3 - x2) ^^^ (-1 : Int32)) (16 : Int32)) fun t_bitCount_4 t_came4 =>
bnd3 (L_Writer_putStored_50 F n_p1 p1 x3 F x2 t_bitCount_4 t_came4) fun v5_3 t_bitCount_8 t_came8 =>
some (t_bitCount_8, t_came8)
def B_Writer_giveCodes_10 (F : Nat) (n_p1 : Nat) (p1 : Nat → Int32) (rec : Int32 → (Nat → Int32) → Option (Int32 × (Nat → Int32))) (v3_1 : Int32) (t_next2 : Nat → Int32) : Option (Int32 × (Nat → Int32)) :=
(if (nI n_p1) ≤ v3_1 then
some (v3_1, t_next2)
else
chk (inb v3_1 n_p1) <| bnd1 (if (p1 v3_1.toNatClampNeg) ≤ (0 : Int32) then
some t_next2
else
chk (inb v3_1 n_p1) <| (if (15 : Int32) < (p1 v3_1.toNatClampNeg) then
some t_next2
else
chk (inb v3_1 n_p1) <| chk (inb ((p1 v3_1.toNatClampNeg) + (1 : Int32)) 17) <| chk (inb ((p1 v3_1.toNatClampNeg) + (1 : Int32)) 17) <| nm (upd t_next2 ((p1 v3_1.toNatClampNeg) + (1 : Int32)).toNatClampNeg ((t_next2 ((p1 v3_1.toNatClampNeg) + (1 : Int32)).toNatClampNeg) + (1 : Int32))) fun t_next5 => some t_next5)) fun t_next4 =>
nm (v3_1 + Int32.ofInt (1)) fun y1 => rec y1 t_next4)
def L_Writer_giveCodes_10 (F : Nat) (n_p1 : Nat) (p1 : Nat → Int32) : Nat → Int32 → (Nat → Int32) → Option (Int32 × (Nat → Int32))
  | 0 => fun _ _ => none
  | f + 1 => fun v3_1 t_next2 => B_Writer_giveCodes_10 F n_p1 p1 (L_Writer_giveCodes_10 F n_p1 p1 f) v3_1 t_next2
def B_Writer_giveCodes_52 (F : Nat)  (rec : Int32 → (Nat → Int32) → Option (Int32 × (Nat → Int32))) (v3_4 : Int32) (t_next7 : Nat → Int32) : Option (Int32 × (Nat → Int32)) :=
(if (nI 17) ≤ v3_4 then
some (v3_4, t_next7)
else
chk (inb v3_4 17) <| chk (inb (v3_4 - (1 : Int32)) 17) <| chk (inb v3_4 17) <| nm (upd t_next7 v3_4.toNatClampNeg (((t_next7 v3_4.toNatClampNeg) + (t_next7 (v3_4 - (1 : Int32)).toNatClampNeg)) <<< ((1 : Int32) &&& 31))) fun t_next9 => nm (v3_4 + Int32.ofInt (1)) fun y2 => rec y2 t_next9)
def L_Writer_giveCodes_52 (F : Nat)  : Nat → Int32 → (Nat → Int32) → Option (Int32 × (Nat → Int32))
  | 0 => fun _ _ => none
  | f + 1 => fun v3_4 t_next7 => B_Writer_giveCodes_52 F  (L_Writer_giveCodes_52 F  f) v3_4 t_next7
def B_Writer_giveCodes_92 (F : Nat) (n_p1 n_p2 : Nat) (p1 : Nat → Int32) (rec : Int32 → (Nat → Int32) → (Nat → Int32) → Option (Int32 × (Nat → Int32) × (Nat → Int32))) (v3_7 : Int32) (p3 t_next11 : Nat → Int32) : Option (Int32 × (Nat → Int32) × (Nat → Int32)) :=
(if (nI n_p1) ≤ v3_7 then
some (v3_7, p3, t_next11)
else
(if (nI n_p2) ≤ v3_7 then
some (v3_7, p3, t_next11)
else
chk (inb v3_7 n_p1) <| bnd2 (if (p1 v3_7.toNatClampNeg) ≤ (0 : Int32) then
some (p3, t_next11)
else
chk (inb v3_7 n_p1) <| (if (15 : Int32) < (p1 v3_7.toNatClampNeg) then
some (p3, t_next11)
else
chk (inb v3_7 n_p1) <| chk (inb (p1 v3_7.toNatClampNeg) 17) <| chk (inb v3_7 n_p2) <| nm (upd p3 v3_7.toNatClampNeg (t_next11 (p1 v3_7.toNatClampNeg).toNatClampNeg)) fun p6 => chk (inb v3_7 n_p1) <| chk (inb (p1 v3_7.toNatClampNeg) 17) <| chk (inb (p1 v3_7.toNatClampNeg) 17) <| nm (upd t_next11 (p1 v3_7.toNatClampNeg).toNatClampNeg ((t_next11 (p1 v3_7.toNatClampNeg).toNatClampNeg) + (1 : Int32))) fun t_next14 => some (p6, t_next14))) fun p5 t_next13 =>
nm (v3_7 + Int32.ofInt (1)) fun y3 => rec y3 p5 t_next13))
def L_Writer_giveCodes_92 (F : Nat) (n_p1 n_p2 : Nat) (p1 : Nat → Int32) : Nat → Int32 → (Nat → Int32) → (Nat → Int32) → Option (Int32 × (Nat → Int32) × (Nat → Int32))
  | 0 => fun _ _ _ => none
  | f + 1 => fun v3_7 p3 t_next11 => B_Writer_giveCodes_92 F n_p1 n_p2 p1 (L_Writer_giveCodes_92 F n_p1 n_p2 p1 f) v3_7 p3 t_next11
def m_Writer_giveCodes (F : Nat) (n_p1 n_p2 : Nat) (p1 p2 t_next : Nat → Int32) : Option ((Nat → Int32) × (Nat → Int32)) :=
bnd1 (m_JA_fill2 F 17 t_next (0 : Int32)) fun t_next1 =>
bnd2 (L_Writer_giveCodes_10 F n_p1 p1 F (0 : Int32) t_next1) fun v3_3 t_next6 =>
bnd2 (L_Writer_giveCodes_52 F  F (1 : Int32) t_next6) fun v3_6 t_next10 =>
bnd3 (L_Writer_giveCodes_92 F n_p1 n_p2 p1 F (0 : Int32) p2 t_next10) fun v3_9 p7 t_next15 =>
some (p7, t_next15)
def B_Writer_putRow_39 (F : Nat) (p1_code_length : Nat → Int32) (p1_toldOfCode : Int32) (rec : Int32 → Int32 → (Nat → Int32) → Option (Int32 × Int32 × (Nat → Int32))) (v2_1 t_bitCount_4 : Int32) (t_came4 : Nat → Int32) : Option (Int32 × Int32 × (Nat → Int32)) :=
(if p1_toldOfCode ≤ v2_1 then
some (v2_1, t_bitCount_4, t_came4)
else
(if (19 : Int32) ≤ v2_1 then
some (v2_1, t_bitCount_4, t_came4)
else
chk (inb v2_1 (tn 4)) <| chk (inb (tb 4 v2_1.toNatClampNeg) 19) <| bnd2 (m_Writer_putBits F t_bitCount_4 t_came4 (p1_code_length (tb 4 v2_1.toNatClampNeg).toNatClampNeg) (3 : Int32)) fun t_bitCount_6 t_came6 =>
nm (v2_1 + Int32.ofInt (1)) fun y1 => rec y1 t_bitCount_6 t_came6))
def L_Writer_putRow_39 (F : Nat) (p1_code_length : Nat → Int32) (p1_toldOfCode : Int32) : Nat → Int32 → Int32 → (Nat → Int32) → Option (Int32 × Int32 × (Nat → Int32))
  | 0 => fun _ _ _ => none
  | f + 1 => fun v2_1 t_bitCount_4 t_came4 => B_Writer_putRow_39 F p1_code_length p1_toldOfCode (L_Writer_putRow_39 F p1_code_length p1_toldOfCode f) v2_1 t_bitCount_4 t_came4
def B_Writer_putRow_79 (F : Nat) (p1_code_length p1_row : Nat → Int32) (p1_size : Int32) (t_lengthCode : Nat → Int32) (rec : Int32 → Int32 → (Nat → Int32) → Option (Int32 × Int32 × (Nat → Int32))) (v2_4 t_bitCount_8 : Int32) (t_came8 : Nat → Int32) : Option (Int32 × Int32 × (Nat → Int32)) :=
(if p1_size ≤ v2_4 then
some (v2_4, t_bitCount_8, t_came8)
else
bnd1 (m_LengthRow_symbolAt F p1_row v2_4) fun r1 =>
chk (inb r1 19) <| chk (inb r1 19) <| bnd2 (m_Writer_putCode F t_bitCount_8 t_came8 (t_lengthCode r1.toNatClampNeg) (p1_code_length r1.toNatClampNeg)) fun t_bitCount_10 t_came10 =>
bnd1 (m_LengthRow_extraAt F p1_row v2_4) fun r2 =>
bnd1 (m_DE_repeatExtra F r1) fun r3 =>
bnd2 (m_Writer_putBits F t_bitCount_10 t_came10 r2 r3) fun t_bitCount_11 t_came11 =>
nm (v2_4 + Int32.ofInt (1)) fun y2 => rec y2 t_bitCount_11 t_came11)
def L_Writer_putRow_79 (F : Nat) (p1_code_length p1_row : Nat → Int32) (p1_size : Int32) (t_lengthCode : Nat → Int32) : Nat → Int32 → Int32 → (Nat → Int32) → Option (Int32 × Int32 × (Nat → Int32))
  | 0 => fun _ _ _ => none
  | f + 1 => fun v2_4 t_bitCount_8 t_came8 => B_Writer_putRow_79 F p1_code_length p1_row p1_size t_lengthCode (L_Writer_putRow_79 F p1_code_length p1_row p1_size t_lengthCode f) v2_4 t_bitCount_8 t_came8
def m_Writer_putRow (F : Nat) (p1_code_length : Nat → Int32) (p1_distances p1_literals : Int32) (p1_row : Nat → Int32) (p1_size p1_toldOfCode t_bitCount : Int32) (t_came t_lengthCode : Nat → Int32) : Option (Int32 × (Nat → Int32)) :=
bnd2 (m_Writer_putBits F t_bitCount t_came ((p1_literals - (256 : Int32)) - (1 : Int32)) (5 : Int32)) fun t_bitCount_1 t_came1 =>
bnd2 (m_Writer_putBits F t_bitCount_1 t_came1 (p1_distances - (1 : Int32)) (5 : Int32)) fun t_bitCount_2 t_came2 =>
bnd2 (m_Writer_putBits F t_bitCount_2 t_came2 (p1_toldOfCode - (4 : Int32)) (4 : Int32)) fun t_bitCount_3 t_came3 =>
bnd3 (L_Writer_putRow_39 F p1_code_length p1_toldOfCode F (0 : Int32) t_bitCount_3 t_came3) fun v2_3 t_bitCount_7 t_came7 =>
bnd3 (L_Writer_putRow_79 F p1_code_length p1_row p1_size t_lengthCode F (0 : Int32) t_bitCount_7 t_came7) fun v2_6 t_bitCount_12 t_came12 =>
some (t_bitCount_12, t_came12)
