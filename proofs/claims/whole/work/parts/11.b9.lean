/-! the law's arms -/
abbrev J_LW_law (l : Launch) (Z : rx_D) (mc ms : Nat) (post : Option Value → va_W → Prop) := Rw l Z "DeflateEffortLaw" "law" b_LW_law 7 (some .boolean) 9 mc ms post
theorem rw_lv {l : Launch} {Z : rx_D} {own nm : String} {cc : ByteArray} {nL : Nat} {ret : Option FieldType} {d mc ms : Nat} {post : Option Value → va_W → Prop} {k n : Nat} {ws : va_W} {lv lv' : List (Nat × Value)} {pc : Nat} {st : List Value} (ks : List Nat) (hk : lv_pick lv ks = lv') (K : Rw l Z own nm cc nL ret d mc ms post k n ws lv' pc st) : Rw l Z own nm cc nL ret d mc ms post k n ws lv pc st :=
  rw_perm ks (plr 0 ws.length) hk (by
    have h := pl_mid [] ws []
    rw [List.append_nil, List.nil_append] at h
    exact h) (pl_nd _ _) K
theorem la_at (X V : va_W) (c : Nat × va_E) : (X ++ (V ++ [c]))[X.length + V.length]? = some c := by
  rw [List.getElem?_append_right (Nat.le_add_right _ _), Nat.add_sub_cancel_left, List.getElem?_append_right (Nat.le_refl _), Nat.sub_self]
  rfl
theorem lcm_self (x : Int64) : lcm x x = 0 := by
  unfold lcm
  rw [if_neg (fun h => Int64.lt_irrefl h), if_pos rfl]
/-- the script's ints behind a call's first -/
theorem in1 {L iv : Nat} (h : iv + 3 ≤ L) (hL : L < 2147483000) : inb (nI iv + 1) L = true := by
  show inb (nI iv + nI 1) L = true
  rw [z_add]
  exact z_inb (by omega) (by omega)
theorem in2 {L iv : Nat} (h : iv + 3 ≤ L) (hL : L < 2147483000) : inb (nI iv + 2) L = true := by
  show inb (nI iv + nI 2) L = true
  rw [z_add]
  exact z_inb (by omega) (by omega)
set_option maxRecDepth 100000 in
set_option maxHeartbeats 4000000 in
theorem ar_feed (l : Launch) (Z : rx_D) (mc ms : Nat) (post : Option Value → va_W → Prop) (hlt : l.stackTraces = false) (k n iv xa ma lc : Nat) (lg : Nat → Int64) (W V : va_W) (hL : Z.2.2.2.2.1 < 2147483000) (hiv : iv + 3 ≤ Z.2.2.2.2.1) (hb : k + 1 ≤ mc ∧ n + 6 ≤ ms) (hJ : JI Z xa ma W V) (NX : ∀ (k' n' : Nat) (lg' : Nat → Int64) (X' V' : va_W), k' ≤ k + 1 → n' ≤ n + 6 → JI Z xa ma X' V' → J_LW_law l Z mc ms post k' n' (X' ++ (V' ++ [la Z lc 1 lg'])) [(0, .ref Z.2.2.2.1), (1, .ref xa), (2, .ref ma), (3, .ref lc), (4, .int (nI iv))] 678 []) : J_LW_law l Z mc ms post k n (W ++ (V ++ [la Z lc 1 lg])) [(0, .ref Z.2.2.2.1), (1, .ref xa), (2, .ref ma), (3, .ref lc), (4, .int (nI iv))] 120 [] := by
  obtain ⟨kk, v, lg2, PX, PM, h1, h2, h3, h4⟩ := a_feed l Z xa ma lc lg (Z.2.2.2.2.2 (nI iv + 1).toNatClampNeg) (Z.2.2.2.2.2 (nI iv + 2).toNatClampNeg) W V hlt hJ
  obtain ⟨-, fs, hm0⟩ := hd_X hJ
  refine rw_aload_n (pc := 120) 1 rfl rfl (rx_dt dt_LW_law 37 rfl) ?_
  refine rw_aload_n (pc := 121) 0 rfl rfl (rx_dt dt_LW_law 38 rfl) ?_
  refine rw_iload (pc := 122) 4 rfl (rx_dt dt_LW_law 39 rfl) ?_
  refine rw_iconst (pc := 124) (v := 1) rfl (rx_dt dt_LW_law 40 rfl) ?_
  refine rw_iadd (pc := 125) (rx_dt dt_LW_law 41 rfl) ?_
  refine rw_sld (pc := 126) (in1 hiv hL) (rx_dt dt_LW_law 42 rfl) ?_
  refine rw_aload_n (pc := 127) 0 rfl rfl (rx_dt dt_LW_law 43 rfl) ?_
  refine rw_iload (pc := 128) 4 rfl (rx_dt dt_LW_law 44 rfl) ?_
  refine rw_iconst (pc := 130) (v := 2) rfl (rx_dt dt_LW_law 45 rfl) ?_
  refine rw_iadd (pc := 131) (rx_dt dt_LW_law 46 rfl) ?_
  refine rw_sld (pc := 132) (in2 hiv hL) (rx_dt dt_LW_law 47 rfl) ?_
  refine rw_aload_n (pc := 133) 3 rfl rfl (rx_dt dt_LW_law 48 rfl) ?_
  refine rw_callSWB (pc := 134) cww_LW_feed lx_LW_53 cs_LW_feed h1 (rest := []) (post' := fun r X' L' => r = (some (.int (nI kk))) ∧ PX X' ∧ L' = [la Z lc 1 lg2]) rfl (by decide) (fun _ => hb) (Nat.le_of_ble_eq_true rfl) rfl (rx_dt dt_LW_law 49 rfl) ?_
  rintro _ X' L' ⟨rfl, hX, rfl⟩
  show J_LW_law l Z mc ms post (k + 1) (n + 6) (X' ++ (V ++ [la Z lc 1 lg2])) [(0, .ref Z.2.2.2.1), (1, .ref xa), (2, .ref ma), (3, .ref lc), (4, .int (nI iv))] 137 [.int (nI kk)]
  refine rw_istore (pc := 137) (lv' := [(5, .int (nI kk)), (0, .ref Z.2.2.2.1), (1, .ref xa), (2, .ref ma), (3, .ref lc), (4, .int (nI iv))]) (by decide) rfl (rx_dt dt_LW_law 50 rfl) ?_
  refine rw_aload_n (pc := 139) 3 rfl rfl (rx_dt dt_LW_law 51 rfl) ?_
  refine rw_aload_n (pc := 140) 1 rfl rfl (rx_dt dt_LW_law 52 rfl) ?_
  refine rw_iload (pc := 141) 5 rfl (rx_dt dt_LW_law 53 rfl) ?_
  refine rw_iconst (pc := 143) (v := 1) rfl (rx_dt dt_LW_law 54 rfl) ?_
  refine rw_iadd (pc := 144) (rx_dt dt_LW_law 55 rfl) ?_
  refine rw_sld (pc := 145) (in1 hiv hL) (rx_dt dt_LW_law 56 rfl) ?_
  refine rw_aload_n (pc := 146) 1 rfl rfl (rx_dt dt_LW_law 57 rfl) ?_
  refine rw_iload (pc := 147) 5 rfl (rx_dt dt_LW_law 58 rfl) ?_
  refine rw_iconst (pc := 149) (v := 2) rfl (rx_dt dt_LW_law 59 rfl) ?_
  refine rw_iadd (pc := 150) (rx_dt dt_LW_law 60 rfl) ?_
  refine rw_sld (pc := 151) (in2 hiv hL) (rx_dt dt_LW_law 61 rfl) ?_
  refine rw_callVB (pc := 152) (A := X') (C := V) (B := [la Z lc 1 lg2]) (j := 0) (as := [.int (Z.2.2.2.2.2 (nI iv + 1).toNatClampNeg), .int (Z.2.2.2.2.2 (nI iv + 2).toNatClampNeg)]) (rest := []) cw_MD_feed lk_LW_56 ci_MD_feed rfl hm0 h2 rfl (by decide) (fun h => h) (Nat.le_of_ble_eq_true rfl) rfl (rx_dt dt_LW_law 62 rfl) ?_
  rintro _ V' ⟨rfl, hM⟩
  show J_LW_law l Z mc ms post (k + 1) (n + 6) (X' ++ (V' ++ [la Z lc 1 lg2])) [(5, .int (nI kk)), (0, .ref Z.2.2.2.1), (1, .ref xa), (2, .ref ma), (3, .ref lc), (4, .int (nI iv))] 155 [.int v]
  obtain ⟨⟨fs2, hm2⟩, PT, h5, h6⟩ := h4 X' V' hX hM
  refine rw_istore (pc := 155) (lv' := [(6, .int v), (5, .int (nI kk)), (0, .ref Z.2.2.2.1), (1, .ref xa), (2, .ref ma), (3, .ref lc), (4, .int (nI iv))]) (by decide) rfl (rx_dt dt_LW_law 63 rfl) ?_
  refine rw_aload_n (pc := 157) 4 rfl rfl (rx_dt dt_LW_law 64 rfl) ?_
  refine rw_callVB (pc := 158) (A := X') (C := V') (B := [la Z lc 1 lg2]) (j := 0) (as := []) (rest := []) cw_MD_thrown lk_LW_57 ci_MD_thrown rfl hm2 h5 rfl (by decide) (fun h => h) (Nat.le_of_ble_eq_true rfl) rfl (rx_dt dt_LW_law 65 rfl) ?_
  rintro _ V2 ⟨rfl, hM2⟩
  show J_LW_law l Z mc ms post (k + 1) (n + 6) (X' ++ (V2 ++ [la Z lc 1 lg2])) [(6, .int v), (5, .int (nI kk)), (0, .ref Z.2.2.2.1), (1, .ref xa), (2, .ref ma), (3, .ref lc), (4, .int (nI iv))] 161 [.int (nI kk)]
  have hJ2 := h6 V2 hM2
  have fin : J_LW_law l Z mc ms post (k + 1) (n + 6) (X' ++ (V2 ++ [la Z lc 1 lg2])) [(6, .int v), (5, .int (nI kk)), (0, .ref Z.2.2.2.1), (1, .ref xa), (2, .ref ma), (3, .ref lc), (4, .int (nI iv))] 185 [] := by
    refine rw_goto (pc := 185) (tgt := 678) (by decide) (rx_dt dt_LW_law 81 rfl) ?_
    exact rw_lv [2, 3, 4, 5, 6] rfl (NX (k + 1) (n + 6) lg2 X' V2 (Nat.le_refl _) (Nat.le_refl _) hJ2)
  refine rw_iload (pc := 161) 1 rfl (rx_dt dt_LW_law 66 rfl) ?_
  refine rw_icmp_eq_t (pc := 163) (tgt := 168) rfl (by decide) (rx_dt dt_LW_law 67 rfl) ?_
  refine rw_iload (pc := 168) 1 rfl (rx_dt dt_LW_law 70 rfl) ?_
  by_cases h0 : nI kk = 0
  · refine rw_if_ne_f (pc := 170) (tgt := 185) h0 (by decide) (rx_dt dt_LW_law 71 rfl) ?_
    refine rw_aload_n (pc := 173) 5 rfl rfl (rx_dt dt_LW_law 72 rfl) ?_
    refine rw_iconst (pc := 174) (v := 0) rfl (rx_dt dt_LW_law 73 rfl) ?_
    refine rw_lald (pc := 175) (X'.length + V2.length) (la_at X' V2 _) rfl (rx_dt dt_LW_law 74 rfl) ?_
    rw [h3 h0]
    refine rw_iload (pc := 176) 0 rfl (rx_dt dt_LW_law 75 rfl) ?_
    refine rw_i2l (pc := 178) (rx_dt dt_LW_law 76 rfl) ?_
    refine rw_lcmp (pc := 179) (rx_dt dt_LW_law 77 rfl) ?_
    rw [lcm_self]
    exact rw_if_eq_t (pc := 180) (tgt := 185) rfl (by decide) (rx_dt dt_LW_law 78 rfl) fin
  · exact rw_if_ne_t (pc := 170) (tgt := 185) h0 (by decide) (rx_dt dt_LW_law 71 rfl) fin
set_option maxRecDepth 100000 in
set_option maxHeartbeats 4000000 in
theorem ar_deflate (l : Launch) (Z : rx_D) (mc ms : Nat) (post : Option Value → va_W → Prop) (hlt : l.stackTraces = false) (k n iv xa ma lc : Nat) (lg : Nat → Int64) (W V : va_W) (hL : Z.2.2.2.2.1 < 2147483000) (hiv : iv + 3 ≤ Z.2.2.2.2.1) (hb : k + 1 ≤ mc ∧ n + 6 ≤ ms) (hJ : JI Z xa ma W V) (NX : ∀ (k' n' : Nat) (lg' : Nat → Int64) (X' V' : va_W), k' ≤ k + 1 → n' ≤ n + 6 → JI Z xa ma X' V' → J_LW_law l Z mc ms post k' n' (X' ++ (V' ++ [la Z lc 1 lg'])) [(0, .ref Z.2.2.2.1), (1, .ref xa), (2, .ref ma), (3, .ref lc), (4, .int (nI iv))] 678 []) : J_LW_law l Z mc ms post k n (W ++ (V ++ [la Z lc 1 lg])) [(0, .ref Z.2.2.2.1), (1, .ref xa), (2, .ref ma), (3, .ref lc), (4, .int (nI iv))] 188 [] := by
  obtain ⟨r, PX, PM, h1, h2, h3⟩ := a_deflate l Z xa ma  W V hJ
  obtain ⟨⟨fs, hx0⟩, fs2, hm0⟩ := hd_X hJ
  refine rw_aload_n (pc := 188) 1 rfl rfl (rx_dt dt_LW_law 82 rfl) ?_
  refine rw_callVB (pc := 189) (A := []) (C := W) (B := V ++ [la Z lc 1 lg]) (j := 0) (as := []) (rest := []) cw_DE_deflate lk_LW_61 ci_DE_deflate rfl hx0 h1 rfl (by decide) (fun h => h) (Nat.le_of_ble_eq_true rfl) rfl (rx_dt dt_LW_law 83 rfl) ?_
  rintro _ X' ⟨rfl, hX⟩
  show J_LW_law l Z mc ms post k n (X' ++ (V ++ [la Z lc 1 lg])) [(0, .ref Z.2.2.2.1), (1, .ref xa), (2, .ref ma), (3, .ref lc), (4, .int (nI iv))] 192 [.int r]
  refine rw_aload_n (pc := 192) 2 rfl rfl (rx_dt dt_LW_law 84 rfl) ?_
  refine rw_callVB (pc := 193) (A := X') (C := V) (B := [la Z lc 1 lg]) (j := 0) (as := []) (rest := [.int r]) cw_MD_deflate lk_LW_64 ci_MD_deflate rfl hm0 h2 rfl (by decide) (fun h => h) (Nat.le_of_ble_eq_true rfl) rfl (rx_dt dt_LW_law 85 rfl) ?_
  rintro _ V' ⟨rfl, hM⟩
  show J_LW_law l Z mc ms post k n (X' ++ (V' ++ [la Z lc 1 lg])) [(0, .ref Z.2.2.2.1), (1, .ref xa), (2, .ref ma), (3, .ref lc), (4, .int (nI iv))] 196 [.int r, .int r]
  exact rw_icmp_eq_t (pc := 196) (tgt := 678) rfl (by decide) (rx_dt dt_LW_law 86 rfl) (NX k n lg X' V' (Nat.le_succ _) (Nat.le_add_right _ _) (h3 X' V' hX hM))
set_option maxRecDepth 100000 in
set_option maxHeartbeats 4000000 in
theorem ar_byteAt (l : Launch) (Z : rx_D) (mc ms : Nat) (post : Option Value → va_W → Prop) (hlt : l.stackTraces = false) (k n iv xa ma lc : Nat) (lg : Nat → Int64) (W V : va_W) (hL : Z.2.2.2.2.1 < 2147483000) (hiv : iv + 3 ≤ Z.2.2.2.2.1) (hb : k + 1 ≤ mc ∧ n + 6 ≤ ms) (hJ : JI Z xa ma W V) (NX : ∀ (k' n' : Nat) (lg' : Nat → Int64) (X' V' : va_W), k' ≤ k + 1 → n' ≤ n + 6 → JI Z xa ma X' V' → J_LW_law l Z mc ms post k' n' (X' ++ (V' ++ [la Z lc 1 lg'])) [(0, .ref Z.2.2.2.1), (1, .ref xa), (2, .ref ma), (3, .ref lc), (4, .int (nI iv))] 678 []) : J_LW_law l Z mc ms post k n (W ++ (V ++ [la Z lc 1 lg])) [(0, .ref Z.2.2.2.1), (1, .ref xa), (2, .ref ma), (3, .ref lc), (4, .int (nI iv))] 201 [] := by
  obtain ⟨kk, v, lg2, PX, PM, h1, h2, h3, h4⟩ := a_byteAt l Z xa ma lc lg (Z.2.2.2.2.2 (nI iv + 1).toNatClampNeg) W V hlt hJ
  obtain ⟨-, fs, hm0⟩ := hd_X hJ
  refine rw_aload_n (pc := 201) 1 rfl rfl (rx_dt dt_LW_law 89 rfl) ?_
  refine rw_aload_n (pc := 202) 0 rfl rfl (rx_dt dt_LW_law 90 rfl) ?_
  refine rw_iload (pc := 203) 4 rfl (rx_dt dt_LW_law 91 rfl) ?_
  refine rw_iconst (pc := 205) (v := 1) rfl (rx_dt dt_LW_law 92 rfl) ?_
  refine rw_iadd (pc := 206) (rx_dt dt_LW_law 93 rfl) ?_
  refine rw_sld (pc := 207) (in1 hiv hL) (rx_dt dt_LW_law 94 rfl) ?_
  refine rw_aload_n (pc := 208) 3 rfl rfl (rx_dt dt_LW_law 95 rfl) ?_
  refine rw_callSWB (pc := 209) cww_LW_byteAt lx_LW_65 cs_LW_byteAt h1 (rest := []) (post' := fun r X' L' => r = (some (.int (nI kk))) ∧ PX X' ∧ L' = [la Z lc 1 lg2]) rfl (by decide) (fun _ => hb) (Nat.le_of_ble_eq_true rfl) rfl (rx_dt dt_LW_law 96 rfl) ?_
  rintro _ X' L' ⟨rfl, hX, rfl⟩
  show J_LW_law l Z mc ms post (k + 1) (n + 6) (X' ++ (V ++ [la Z lc 1 lg2])) [(0, .ref Z.2.2.2.1), (1, .ref xa), (2, .ref ma), (3, .ref lc), (4, .int (nI iv))] 212 [.int (nI kk)]
  refine rw_istore (pc := 212) (lv' := [(5, .int (nI kk)), (0, .ref Z.2.2.2.1), (1, .ref xa), (2, .ref ma), (3, .ref lc), (4, .int (nI iv))]) (by decide) rfl (rx_dt dt_LW_law 97 rfl) ?_
  refine rw_aload_n (pc := 214) 3 rfl rfl (rx_dt dt_LW_law 98 rfl) ?_
  refine rw_aload_n (pc := 215) 1 rfl rfl (rx_dt dt_LW_law 99 rfl) ?_
  refine rw_iload (pc := 216) 5 rfl (rx_dt dt_LW_law 100 rfl) ?_
  refine rw_iconst (pc := 218) (v := 1) rfl (rx_dt dt_LW_law 101 rfl) ?_
  refine rw_iadd (pc := 219) (rx_dt dt_LW_law 102 rfl) ?_
  refine rw_sld (pc := 220) (in1 hiv hL) (rx_dt dt_LW_law 103 rfl) ?_
  refine rw_callVB (pc := 221) (A := X') (C := V) (B := [la Z lc 1 lg2]) (j := 0) (as := [.int (Z.2.2.2.2.2 (nI iv + 1).toNatClampNeg)]) (rest := []) cw_MD_byteAt lk_LW_68 ci_MD_byteAt rfl hm0 h2 rfl (by decide) (fun h => h) (Nat.le_of_ble_eq_true rfl) rfl (rx_dt dt_LW_law 104 rfl) ?_
  rintro _ V' ⟨rfl, hM⟩
  show J_LW_law l Z mc ms post (k + 1) (n + 6) (X' ++ (V' ++ [la Z lc 1 lg2])) [(5, .int (nI kk)), (0, .ref Z.2.2.2.1), (1, .ref xa), (2, .ref ma), (3, .ref lc), (4, .int (nI iv))] 224 [.int v]
  obtain ⟨⟨fs2, hm2⟩, PT, h5, h6⟩ := h4 X' V' hX hM
  refine rw_istore (pc := 224) (lv' := [(6, .int v), (5, .int (nI kk)), (0, .ref Z.2.2.2.1), (1, .ref xa), (2, .ref ma), (3, .ref lc), (4, .int (nI iv))]) (by decide) rfl (rx_dt dt_LW_law 105 rfl) ?_
  refine rw_aload_n (pc := 226) 4 rfl rfl (rx_dt dt_LW_law 106 rfl) ?_
  refine rw_callVB (pc := 227) (A := X') (C := V') (B := [la Z lc 1 lg2]) (j := 0) (as := []) (rest := []) cw_MD_thrown lk_LW_57 ci_MD_thrown rfl hm2 h5 rfl (by decide) (fun h => h) (Nat.le_of_ble_eq_true rfl) rfl (rx_dt dt_LW_law 107 rfl) ?_
  rintro _ V2 ⟨rfl, hM2⟩
  show J_LW_law l Z mc ms post (k + 1) (n + 6) (X' ++ (V2 ++ [la Z lc 1 lg2])) [(6, .int v), (5, .int (nI kk)), (0, .ref Z.2.2.2.1), (1, .ref xa), (2, .ref ma), (3, .ref lc), (4, .int (nI iv))] 230 [.int (nI kk)]
  have hJ2 := h6 V2 hM2
  have fin : J_LW_law l Z mc ms post (k + 1) (n + 6) (X' ++ (V2 ++ [la Z lc 1 lg2])) [(6, .int v), (5, .int (nI kk)), (0, .ref Z.2.2.2.1), (1, .ref xa), (2, .ref ma), (3, .ref lc), (4, .int (nI iv))] 254 [] := by
    refine rw_goto (pc := 254) (tgt := 678) (by decide) (rx_dt dt_LW_law 123 rfl) ?_
    exact rw_lv [2, 3, 4, 5, 6] rfl (NX (k + 1) (n + 6) lg2 X' V2 (Nat.le_refl _) (Nat.le_refl _) hJ2)
  refine rw_iload (pc := 230) 1 rfl (rx_dt dt_LW_law 108 rfl) ?_
  refine rw_icmp_eq_t (pc := 232) (tgt := 237) rfl (by decide) (rx_dt dt_LW_law 109 rfl) ?_
  refine rw_iload (pc := 237) 1 rfl (rx_dt dt_LW_law 112 rfl) ?_
  by_cases h0 : nI kk = 0
  · refine rw_if_ne_f (pc := 239) (tgt := 254) h0 (by decide) (rx_dt dt_LW_law 113 rfl) ?_
    refine rw_aload_n (pc := 242) 5 rfl rfl (rx_dt dt_LW_law 114 rfl) ?_
    refine rw_iconst (pc := 243) (v := 0) rfl (rx_dt dt_LW_law 115 rfl) ?_
    refine rw_lald (pc := 244) (X'.length + V2.length) (la_at X' V2 _) rfl (rx_dt dt_LW_law 116 rfl) ?_
    rw [h3 h0]
    refine rw_iload (pc := 245) 0 rfl (rx_dt dt_LW_law 117 rfl) ?_
    refine rw_i2l (pc := 247) (rx_dt dt_LW_law 118 rfl) ?_
    refine rw_lcmp (pc := 248) (rx_dt dt_LW_law 119 rfl) ?_
    rw [lcm_self]
    exact rw_if_eq_t (pc := 249) (tgt := 254) rfl (by decide) (rx_dt dt_LW_law 120 rfl) fin
  · exact rw_if_ne_t (pc := 239) (tgt := 254) h0 (by decide) (rx_dt dt_LW_law 113 rfl) fin
set_option maxRecDepth 100000 in
set_option maxHeartbeats 4000000 in
theorem ar_block (l : Launch) (Z : rx_D) (mc ms : Nat) (post : Option Value → va_W → Prop) (hlt : l.stackTraces = false) (k n iv xa ma lc : Nat) (lg : Nat → Int64) (W V : va_W) (hL : Z.2.2.2.2.1 < 2147483000) (hiv : iv + 3 ≤ Z.2.2.2.2.1) (hb : k + 1 ≤ mc ∧ n + 6 ≤ ms) (hJ : JI Z xa ma W V) (NX : ∀ (k' n' : Nat) (lg' : Nat → Int64) (X' V' : va_W), k' ≤ k + 1 → n' ≤ n + 6 → JI Z xa ma X' V' → J_LW_law l Z mc ms post k' n' (X' ++ (V' ++ [la Z lc 1 lg'])) [(0, .ref Z.2.2.2.1), (1, .ref xa), (2, .ref ma), (3, .ref lc), (4, .int (nI iv))] 678 []) : J_LW_law l Z mc ms post k n (W ++ (V ++ [la Z lc 1 lg])) [(0, .ref Z.2.2.2.1), (1, .ref xa), (2, .ref ma), (3, .ref lc), (4, .int (nI iv))] 257 [] := by
  obtain ⟨kk, v, lg2, PX, PM, h1, h2, h3, h4⟩ := a_block l Z xa ma lc lg (Z.2.2.2.2.2 (nI iv + 1).toNatClampNeg) (Z.2.2.2.2.2 (nI iv + 2).toNatClampNeg) W V hlt hJ
  obtain ⟨-, fs, hm0⟩ := hd_X hJ
  refine rw_aload_n (pc := 257) 1 rfl rfl (rx_dt dt_LW_law 124 rfl) ?_
  refine rw_aload_n (pc := 258) 0 rfl rfl (rx_dt dt_LW_law 125 rfl) ?_
  refine rw_iload (pc := 259) 4 rfl (rx_dt dt_LW_law 126 rfl) ?_
  refine rw_iconst (pc := 261) (v := 1) rfl (rx_dt dt_LW_law 127 rfl) ?_
  refine rw_iadd (pc := 262) (rx_dt dt_LW_law 128 rfl) ?_
  refine rw_sld (pc := 263) (in1 hiv hL) (rx_dt dt_LW_law 129 rfl) ?_
  refine rw_aload_n (pc := 264) 0 rfl rfl (rx_dt dt_LW_law 130 rfl) ?_
  refine rw_iload (pc := 265) 4 rfl (rx_dt dt_LW_law 131 rfl) ?_
  refine rw_iconst (pc := 267) (v := 2) rfl (rx_dt dt_LW_law 132 rfl) ?_
  refine rw_iadd (pc := 268) (rx_dt dt_LW_law 133 rfl) ?_
  refine rw_sld (pc := 269) (in2 hiv hL) (rx_dt dt_LW_law 134 rfl) ?_
  refine rw_aload_n (pc := 270) 3 rfl rfl (rx_dt dt_LW_law 135 rfl) ?_
  refine rw_callSWB (pc := 271) cww_LW_block lx_LW_69 cs_LW_block h1 (rest := []) (post' := fun r X' L' => r = (some (.int (nI kk))) ∧ PX X' ∧ L' = [la Z lc 1 lg2]) rfl (by decide) (fun _ => hb) (Nat.le_of_ble_eq_true rfl) rfl (rx_dt dt_LW_law 136 rfl) ?_
  rintro _ X' L' ⟨rfl, hX, rfl⟩
  show J_LW_law l Z mc ms post (k + 1) (n + 6) (X' ++ (V ++ [la Z lc 1 lg2])) [(0, .ref Z.2.2.2.1), (1, .ref xa), (2, .ref ma), (3, .ref lc), (4, .int (nI iv))] 274 [.int (nI kk)]
  refine rw_istore (pc := 274) (lv' := [(5, .int (nI kk)), (0, .ref Z.2.2.2.1), (1, .ref xa), (2, .ref ma), (3, .ref lc), (4, .int (nI iv))]) (by decide) rfl (rx_dt dt_LW_law 137 rfl) ?_
  refine rw_aload_n (pc := 276) 3 rfl rfl (rx_dt dt_LW_law 138 rfl) ?_
  refine rw_aload_n (pc := 277) 1 rfl rfl (rx_dt dt_LW_law 139 rfl) ?_
  refine rw_iload (pc := 278) 5 rfl (rx_dt dt_LW_law 140 rfl) ?_
  refine rw_iconst (pc := 280) (v := 1) rfl (rx_dt dt_LW_law 141 rfl) ?_
  refine rw_iadd (pc := 281) (rx_dt dt_LW_law 142 rfl) ?_
  refine rw_sld (pc := 282) (in1 hiv hL) (rx_dt dt_LW_law 143 rfl) ?_
  refine rw_aload_n (pc := 283) 1 rfl rfl (rx_dt dt_LW_law 144 rfl) ?_
  refine rw_iload (pc := 284) 5 rfl (rx_dt dt_LW_law 145 rfl) ?_
  refine rw_iconst (pc := 286) (v := 2) rfl (rx_dt dt_LW_law 146 rfl) ?_
  refine rw_iadd (pc := 287) (rx_dt dt_LW_law 147 rfl) ?_
  refine rw_sld (pc := 288) (in2 hiv hL) (rx_dt dt_LW_law 148 rfl) ?_
  refine rw_callVB (pc := 289) (A := X') (C := V) (B := [la Z lc 1 lg2]) (j := 0) (as := [.int (Z.2.2.2.2.2 (nI iv + 1).toNatClampNeg), .int (Z.2.2.2.2.2 (nI iv + 2).toNatClampNeg)]) (rest := []) cw_MD_block lk_LW_71 ci_MD_block rfl hm0 h2 rfl (by decide) (fun h => h) (Nat.le_of_ble_eq_true rfl) rfl (rx_dt dt_LW_law 149 rfl) ?_
  rintro _ V' ⟨rfl, hM⟩
  show J_LW_law l Z mc ms post (k + 1) (n + 6) (X' ++ (V' ++ [la Z lc 1 lg2])) [(5, .int (nI kk)), (0, .ref Z.2.2.2.1), (1, .ref xa), (2, .ref ma), (3, .ref lc), (4, .int (nI iv))] 292 [.int v]
  obtain ⟨⟨fs2, hm2⟩, PT, h5, h6⟩ := h4 X' V' hX hM
  refine rw_istore (pc := 292) (lv' := [(6, .int v), (5, .int (nI kk)), (0, .ref Z.2.2.2.1), (1, .ref xa), (2, .ref ma), (3, .ref lc), (4, .int (nI iv))]) (by decide) rfl (rx_dt dt_LW_law 150 rfl) ?_
  refine rw_aload_n (pc := 294) 4 rfl rfl (rx_dt dt_LW_law 151 rfl) ?_
  refine rw_callVB (pc := 295) (A := X') (C := V') (B := [la Z lc 1 lg2]) (j := 0) (as := []) (rest := []) cw_MD_thrown lk_LW_57 ci_MD_thrown rfl hm2 h5 rfl (by decide) (fun h => h) (Nat.le_of_ble_eq_true rfl) rfl (rx_dt dt_LW_law 152 rfl) ?_
  rintro _ V2 ⟨rfl, hM2⟩
  show J_LW_law l Z mc ms post (k + 1) (n + 6) (X' ++ (V2 ++ [la Z lc 1 lg2])) [(6, .int v), (5, .int (nI kk)), (0, .ref Z.2.2.2.1), (1, .ref xa), (2, .ref ma), (3, .ref lc), (4, .int (nI iv))] 298 [.int (nI kk)]
  have hJ2 := h6 V2 hM2
  have fin : J_LW_law l Z mc ms post (k + 1) (n + 6) (X' ++ (V2 ++ [la Z lc 1 lg2])) [(6, .int v), (5, .int (nI kk)), (0, .ref Z.2.2.2.1), (1, .ref xa), (2, .ref ma), (3, .ref lc), (4, .int (nI iv))] 322 [] := by
    refine rw_goto (pc := 322) (tgt := 678) (by decide) (rx_dt dt_LW_law 168 rfl) ?_
    exact rw_lv [2, 3, 4, 5, 6] rfl (NX (k + 1) (n + 6) lg2 X' V2 (Nat.le_refl _) (Nat.le_refl _) hJ2)
  refine rw_iload (pc := 298) 1 rfl (rx_dt dt_LW_law 153 rfl) ?_
  refine rw_icmp_eq_t (pc := 300) (tgt := 305) rfl (by decide) (rx_dt dt_LW_law 154 rfl) ?_
  refine rw_iload (pc := 305) 1 rfl (rx_dt dt_LW_law 157 rfl) ?_
  by_cases h0 : nI kk = 0
  · refine rw_if_ne_f (pc := 307) (tgt := 322) h0 (by decide) (rx_dt dt_LW_law 158 rfl) ?_
    refine rw_aload_n (pc := 310) 5 rfl rfl (rx_dt dt_LW_law 159 rfl) ?_
    refine rw_iconst (pc := 311) (v := 0) rfl (rx_dt dt_LW_law 160 rfl) ?_
    refine rw_lald (pc := 312) (X'.length + V2.length) (la_at X' V2 _) rfl (rx_dt dt_LW_law 161 rfl) ?_
    rw [h3 h0]
    refine rw_iload (pc := 313) 0 rfl (rx_dt dt_LW_law 162 rfl) ?_
    refine rw_i2l (pc := 315) (rx_dt dt_LW_law 163 rfl) ?_
    refine rw_lcmp (pc := 316) (rx_dt dt_LW_law 164 rfl) ?_
    rw [lcm_self]
    exact rw_if_eq_t (pc := 317) (tgt := 322) rfl (by decide) (rx_dt dt_LW_law 165 rfl) fin
  · exact rw_if_ne_t (pc := 307) (tgt := 322) h0 (by decide) (rx_dt dt_LW_law 158 rfl) fin
set_option maxRecDepth 100000 in
set_option maxHeartbeats 4000000 in
theorem ar_feedCoded (l : Launch) (Z : rx_D) (mc ms : Nat) (post : Option Value → va_W → Prop) (hlt : l.stackTraces = false) (k n iv xa ma lc : Nat) (lg : Nat → Int64) (W V : va_W) (hL : Z.2.2.2.2.1 < 2147483000) (hiv : iv + 3 ≤ Z.2.2.2.2.1) (hb : k + 1 ≤ mc ∧ n + 6 ≤ ms) (hJ : JI Z xa ma W V) (NX : ∀ (k' n' : Nat) (lg' : Nat → Int64) (X' V' : va_W), k' ≤ k + 1 → n' ≤ n + 6 → JI Z xa ma X' V' → J_LW_law l Z mc ms post k' n' (X' ++ (V' ++ [la Z lc 1 lg'])) [(0, .ref Z.2.2.2.1), (1, .ref xa), (2, .ref ma), (3, .ref lc), (4, .int (nI iv))] 678 []) : J_LW_law l Z mc ms post k n (W ++ (V ++ [la Z lc 1 lg])) [(0, .ref Z.2.2.2.1), (1, .ref xa), (2, .ref ma), (3, .ref lc), (4, .int (nI iv))] 325 [] := by
  obtain ⟨kk, v, lg2, PX, PM, h1, h2, h3, h4⟩ := a_feedCoded l Z xa ma lc lg (Z.2.2.2.2.2 (nI iv + 1).toNatClampNeg) W V hlt hJ
  obtain ⟨-, fs, hm0⟩ := hd_X hJ
  refine rw_aload_n (pc := 325) 1 rfl rfl (rx_dt dt_LW_law 169 rfl) ?_
  refine rw_aload_n (pc := 326) 0 rfl rfl (rx_dt dt_LW_law 170 rfl) ?_
  refine rw_iload (pc := 327) 4 rfl (rx_dt dt_LW_law 171 rfl) ?_
  refine rw_iconst (pc := 329) (v := 1) rfl (rx_dt dt_LW_law 172 rfl) ?_
  refine rw_iadd (pc := 330) (rx_dt dt_LW_law 173 rfl) ?_
  refine rw_sld (pc := 331) (in1 hiv hL) (rx_dt dt_LW_law 174 rfl) ?_
  refine rw_aload_n (pc := 332) 3 rfl rfl (rx_dt dt_LW_law 175 rfl) ?_
  refine rw_callSWB (pc := 333) cww_LW_feedCoded lx_LW_72 cs_LW_feedCoded h1 (rest := []) (post' := fun r X' L' => r = (some (.int (nI kk))) ∧ PX X' ∧ L' = [la Z lc 1 lg2]) rfl (by decide) (fun _ => hb) (Nat.le_of_ble_eq_true rfl) rfl (rx_dt dt_LW_law 176 rfl) ?_
  rintro _ X' L' ⟨rfl, hX, rfl⟩
  show J_LW_law l Z mc ms post (k + 1) (n + 6) (X' ++ (V ++ [la Z lc 1 lg2])) [(0, .ref Z.2.2.2.1), (1, .ref xa), (2, .ref ma), (3, .ref lc), (4, .int (nI iv))] 336 [.int (nI kk)]
  refine rw_istore (pc := 336) (lv' := [(5, .int (nI kk)), (0, .ref Z.2.2.2.1), (1, .ref xa), (2, .ref ma), (3, .ref lc), (4, .int (nI iv))]) (by decide) rfl (rx_dt dt_LW_law 177 rfl) ?_
  refine rw_aload_n (pc := 338) 3 rfl rfl (rx_dt dt_LW_law 178 rfl) ?_
  refine rw_aload_n (pc := 339) 1 rfl rfl (rx_dt dt_LW_law 179 rfl) ?_
  refine rw_iload (pc := 340) 5 rfl (rx_dt dt_LW_law 180 rfl) ?_
  refine rw_iconst (pc := 342) (v := 1) rfl (rx_dt dt_LW_law 181 rfl) ?_
  refine rw_iadd (pc := 343) (rx_dt dt_LW_law 182 rfl) ?_
  refine rw_sld (pc := 344) (in1 hiv hL) (rx_dt dt_LW_law 183 rfl) ?_
  refine rw_callVB (pc := 345) (A := X') (C := V) (B := [la Z lc 1 lg2]) (j := 0) (as := [.int (Z.2.2.2.2.2 (nI iv + 1).toNatClampNeg)]) (rest := []) cw_MD_feedCoded lk_LW_74 ci_MD_feedCoded rfl hm0 h2 rfl (by decide) (fun h => h) (Nat.le_of_ble_eq_true rfl) rfl (rx_dt dt_LW_law 184 rfl) ?_
  rintro _ V' ⟨rfl, hM⟩
  show J_LW_law l Z mc ms post (k + 1) (n + 6) (X' ++ (V' ++ [la Z lc 1 lg2])) [(5, .int (nI kk)), (0, .ref Z.2.2.2.1), (1, .ref xa), (2, .ref ma), (3, .ref lc), (4, .int (nI iv))] 348 [.int v]
  obtain ⟨⟨fs2, hm2⟩, PT, h5, h6⟩ := h4 X' V' hX hM
  refine rw_istore (pc := 348) (lv' := [(6, .int v), (5, .int (nI kk)), (0, .ref Z.2.2.2.1), (1, .ref xa), (2, .ref ma), (3, .ref lc), (4, .int (nI iv))]) (by decide) rfl (rx_dt dt_LW_law 185 rfl) ?_
  refine rw_aload_n (pc := 350) 4 rfl rfl (rx_dt dt_LW_law 186 rfl) ?_
  refine rw_callVB (pc := 351) (A := X') (C := V') (B := [la Z lc 1 lg2]) (j := 0) (as := []) (rest := []) cw_MD_thrown lk_LW_57 ci_MD_thrown rfl hm2 h5 rfl (by decide) (fun h => h) (Nat.le_of_ble_eq_true rfl) rfl (rx_dt dt_LW_law 187 rfl) ?_
  rintro _ V2 ⟨rfl, hM2⟩
  show J_LW_law l Z mc ms post (k + 1) (n + 6) (X' ++ (V2 ++ [la Z lc 1 lg2])) [(6, .int v), (5, .int (nI kk)), (0, .ref Z.2.2.2.1), (1, .ref xa), (2, .ref ma), (3, .ref lc), (4, .int (nI iv))] 354 [.int (nI kk)]
  have hJ2 := h6 V2 hM2
  have fin : J_LW_law l Z mc ms post (k + 1) (n + 6) (X' ++ (V2 ++ [la Z lc 1 lg2])) [(6, .int v), (5, .int (nI kk)), (0, .ref Z.2.2.2.1), (1, .ref xa), (2, .ref ma), (3, .ref lc), (4, .int (nI iv))] 378 [] := by
    refine rw_goto (pc := 378) (tgt := 678) (by decide) (rx_dt dt_LW_law 203 rfl) ?_
    exact rw_lv [2, 3, 4, 5, 6] rfl (NX (k + 1) (n + 6) lg2 X' V2 (Nat.le_refl _) (Nat.le_refl _) hJ2)
  refine rw_iload (pc := 354) 1 rfl (rx_dt dt_LW_law 188 rfl) ?_
  refine rw_icmp_eq_t (pc := 356) (tgt := 361) rfl (by decide) (rx_dt dt_LW_law 189 rfl) ?_
  refine rw_iload (pc := 361) 1 rfl (rx_dt dt_LW_law 192 rfl) ?_
  by_cases h0 : nI kk = 0
  · refine rw_if_ne_f (pc := 363) (tgt := 378) h0 (by decide) (rx_dt dt_LW_law 193 rfl) ?_
    refine rw_aload_n (pc := 366) 5 rfl rfl (rx_dt dt_LW_law 194 rfl) ?_
    refine rw_iconst (pc := 367) (v := 0) rfl (rx_dt dt_LW_law 195 rfl) ?_
    refine rw_lald (pc := 368) (X'.length + V2.length) (la_at X' V2 _) rfl (rx_dt dt_LW_law 196 rfl) ?_
    rw [h3 h0]
    refine rw_iload (pc := 369) 0 rfl (rx_dt dt_LW_law 197 rfl) ?_
    refine rw_i2l (pc := 371) (rx_dt dt_LW_law 198 rfl) ?_
    refine rw_lcmp (pc := 372) (rx_dt dt_LW_law 199 rfl) ?_
    rw [lcm_self]
    exact rw_if_eq_t (pc := 373) (tgt := 378) rfl (by decide) (rx_dt dt_LW_law 200 rfl) fin
  · exact rw_if_ne_t (pc := 363) (tgt := 378) h0 (by decide) (rx_dt dt_LW_law 193 rfl) fin
set_option maxRecDepth 100000 in
set_option maxHeartbeats 4000000 in
theorem ar_pass (l : Launch) (Z : rx_D) (mc ms : Nat) (post : Option Value → va_W → Prop) (hlt : l.stackTraces = false) (k n iv xa ma lc : Nat) (lg : Nat → Int64) (W V : va_W) (hL : Z.2.2.2.2.1 < 2147483000) (hiv : iv + 3 ≤ Z.2.2.2.2.1) (hb : k + 1 ≤ mc ∧ n + 6 ≤ ms) (hJ : JI Z xa ma W V) (NX : ∀ (k' n' : Nat) (lg' : Nat → Int64) (X' V' : va_W), k' ≤ k + 1 → n' ≤ n + 6 → JI Z xa ma X' V' → J_LW_law l Z mc ms post k' n' (X' ++ (V' ++ [la Z lc 1 lg'])) [(0, .ref Z.2.2.2.1), (1, .ref xa), (2, .ref ma), (3, .ref lc), (4, .int (nI iv))] 678 []) : J_LW_law l Z mc ms post k n (W ++ (V ++ [la Z lc 1 lg])) [(0, .ref Z.2.2.2.1), (1, .ref xa), (2, .ref ma), (3, .ref lc), (4, .int (nI iv))] 381 [] := by
  obtain ⟨kk, v, lg2, PX, PM, h1, h2, h3, h4⟩ := a_pass l Z xa ma lc lg (Z.2.2.2.2.2 (nI iv + 1).toNatClampNeg) (Z.2.2.2.2.2 (nI iv + 2).toNatClampNeg) W V hlt hJ
  obtain ⟨-, fs, hm0⟩ := hd_X hJ
  refine rw_aload_n (pc := 381) 1 rfl rfl (rx_dt dt_LW_law 204 rfl) ?_
  refine rw_aload_n (pc := 382) 0 rfl rfl (rx_dt dt_LW_law 205 rfl) ?_
  refine rw_iload (pc := 383) 4 rfl (rx_dt dt_LW_law 206 rfl) ?_
  refine rw_iconst (pc := 385) (v := 1) rfl (rx_dt dt_LW_law 207 rfl) ?_
  refine rw_iadd (pc := 386) (rx_dt dt_LW_law 208 rfl) ?_
  refine rw_sld (pc := 387) (in1 hiv hL) (rx_dt dt_LW_law 209 rfl) ?_
  refine rw_aload_n (pc := 388) 0 rfl rfl (rx_dt dt_LW_law 210 rfl) ?_
  refine rw_iload (pc := 389) 4 rfl (rx_dt dt_LW_law 211 rfl) ?_
  refine rw_iconst (pc := 391) (v := 2) rfl (rx_dt dt_LW_law 212 rfl) ?_
  refine rw_iadd (pc := 392) (rx_dt dt_LW_law 213 rfl) ?_
  refine rw_sld (pc := 393) (in2 hiv hL) (rx_dt dt_LW_law 214 rfl) ?_
  refine rw_aload_n (pc := 394) 3 rfl rfl (rx_dt dt_LW_law 215 rfl) ?_
  refine rw_callSWB (pc := 395) cww_LW_pass lx_LW_75 cs_LW_pass h1 (rest := []) (post' := fun r X' L' => r = (some (.int (nI kk))) ∧ PX X' ∧ L' = [la Z lc 1 lg2]) rfl (by decide) (fun _ => hb) (Nat.le_of_ble_eq_true rfl) rfl (rx_dt dt_LW_law 216 rfl) ?_
  rintro _ X' L' ⟨rfl, hX, rfl⟩
  show J_LW_law l Z mc ms post (k + 1) (n + 6) (X' ++ (V ++ [la Z lc 1 lg2])) [(0, .ref Z.2.2.2.1), (1, .ref xa), (2, .ref ma), (3, .ref lc), (4, .int (nI iv))] 398 [.int (nI kk)]
  refine rw_istore (pc := 398) (lv' := [(5, .int (nI kk)), (0, .ref Z.2.2.2.1), (1, .ref xa), (2, .ref ma), (3, .ref lc), (4, .int (nI iv))]) (by decide) rfl (rx_dt dt_LW_law 217 rfl) ?_
  refine rw_aload_n (pc := 400) 3 rfl rfl (rx_dt dt_LW_law 218 rfl) ?_
  refine rw_aload_n (pc := 401) 1 rfl rfl (rx_dt dt_LW_law 219 rfl) ?_
  refine rw_iload (pc := 402) 5 rfl (rx_dt dt_LW_law 220 rfl) ?_
  refine rw_iconst (pc := 404) (v := 1) rfl (rx_dt dt_LW_law 221 rfl) ?_
  refine rw_iadd (pc := 405) (rx_dt dt_LW_law 222 rfl) ?_
  refine rw_sld (pc := 406) (in1 hiv hL) (rx_dt dt_LW_law 223 rfl) ?_
  refine rw_aload_n (pc := 407) 1 rfl rfl (rx_dt dt_LW_law 224 rfl) ?_
  refine rw_iload (pc := 408) 5 rfl (rx_dt dt_LW_law 225 rfl) ?_
  refine rw_iconst (pc := 410) (v := 2) rfl (rx_dt dt_LW_law 226 rfl) ?_
  refine rw_iadd (pc := 411) (rx_dt dt_LW_law 227 rfl) ?_
  refine rw_sld (pc := 412) (in2 hiv hL) (rx_dt dt_LW_law 228 rfl) ?_
  refine rw_callVB (pc := 413) (A := X') (C := V) (B := [la Z lc 1 lg2]) (j := 0) (as := [.int (Z.2.2.2.2.2 (nI iv + 1).toNatClampNeg), .int (Z.2.2.2.2.2 (nI iv + 2).toNatClampNeg)]) (rest := []) cw_MD_pass lk_LW_77 ci_MD_pass rfl hm0 h2 rfl (by decide) (fun h => h) (Nat.le_of_ble_eq_true rfl) rfl (rx_dt dt_LW_law 229 rfl) ?_
  rintro _ V' ⟨rfl, hM⟩
  show J_LW_law l Z mc ms post (k + 1) (n + 6) (X' ++ (V' ++ [la Z lc 1 lg2])) [(5, .int (nI kk)), (0, .ref Z.2.2.2.1), (1, .ref xa), (2, .ref ma), (3, .ref lc), (4, .int (nI iv))] 416 [.int v]
  obtain ⟨⟨fs2, hm2⟩, PT, h5, h6⟩ := h4 X' V' hX hM
  refine rw_istore (pc := 416) (lv' := [(6, .int v), (5, .int (nI kk)), (0, .ref Z.2.2.2.1), (1, .ref xa), (2, .ref ma), (3, .ref lc), (4, .int (nI iv))]) (by decide) rfl (rx_dt dt_LW_law 230 rfl) ?_
  refine rw_aload_n (pc := 418) 4 rfl rfl (rx_dt dt_LW_law 231 rfl) ?_
  refine rw_callVB (pc := 419) (A := X') (C := V') (B := [la Z lc 1 lg2]) (j := 0) (as := []) (rest := []) cw_MD_thrown lk_LW_57 ci_MD_thrown rfl hm2 h5 rfl (by decide) (fun h => h) (Nat.le_of_ble_eq_true rfl) rfl (rx_dt dt_LW_law 232 rfl) ?_
  rintro _ V2 ⟨rfl, hM2⟩
  show J_LW_law l Z mc ms post (k + 1) (n + 6) (X' ++ (V2 ++ [la Z lc 1 lg2])) [(6, .int v), (5, .int (nI kk)), (0, .ref Z.2.2.2.1), (1, .ref xa), (2, .ref ma), (3, .ref lc), (4, .int (nI iv))] 422 [.int (nI kk)]
  have hJ2 := h6 V2 hM2
  have fin : J_LW_law l Z mc ms post (k + 1) (n + 6) (X' ++ (V2 ++ [la Z lc 1 lg2])) [(6, .int v), (5, .int (nI kk)), (0, .ref Z.2.2.2.1), (1, .ref xa), (2, .ref ma), (3, .ref lc), (4, .int (nI iv))] 446 [] := by
    refine rw_goto (pc := 446) (tgt := 678) (by decide) (rx_dt dt_LW_law 248 rfl) ?_
    exact rw_lv [2, 3, 4, 5, 6] rfl (NX (k + 1) (n + 6) lg2 X' V2 (Nat.le_refl _) (Nat.le_refl _) hJ2)
  refine rw_iload (pc := 422) 1 rfl (rx_dt dt_LW_law 233 rfl) ?_
  refine rw_icmp_eq_t (pc := 424) (tgt := 429) rfl (by decide) (rx_dt dt_LW_law 234 rfl) ?_
  refine rw_iload (pc := 429) 1 rfl (rx_dt dt_LW_law 237 rfl) ?_
  by_cases h0 : nI kk = 0
  · refine rw_if_ne_f (pc := 431) (tgt := 446) h0 (by decide) (rx_dt dt_LW_law 238 rfl) ?_
    refine rw_aload_n (pc := 434) 5 rfl rfl (rx_dt dt_LW_law 239 rfl) ?_
    refine rw_iconst (pc := 435) (v := 0) rfl (rx_dt dt_LW_law 240 rfl) ?_
    refine rw_lald (pc := 436) (X'.length + V2.length) (la_at X' V2 _) rfl (rx_dt dt_LW_law 241 rfl) ?_
    rw [h3 h0]
    refine rw_iload (pc := 437) 0 rfl (rx_dt dt_LW_law 242 rfl) ?_
    refine rw_i2l (pc := 439) (rx_dt dt_LW_law 243 rfl) ?_
    refine rw_lcmp (pc := 440) (rx_dt dt_LW_law 244 rfl) ?_
    rw [lcm_self]
    exact rw_if_eq_t (pc := 441) (tgt := 446) rfl (by decide) (rx_dt dt_LW_law 245 rfl) fin
  · exact rw_if_ne_t (pc := 431) (tgt := 446) h0 (by decide) (rx_dt dt_LW_law 238 rfl) fin
set_option maxRecDepth 100000 in
set_option maxHeartbeats 4000000 in
theorem ar_alter (l : Launch) (Z : rx_D) (mc ms : Nat) (post : Option Value → va_W → Prop) (hlt : l.stackTraces = false) (k n iv xa ma lc : Nat) (lg : Nat → Int64) (W V : va_W) (hL : Z.2.2.2.2.1 < 2147483000) (hiv : iv + 3 ≤ Z.2.2.2.2.1) (hb : k + 1 ≤ mc ∧ n + 6 ≤ ms) (hJ : JI Z xa ma W V) (NX : ∀ (k' n' : Nat) (lg' : Nat → Int64) (X' V' : va_W), k' ≤ k + 1 → n' ≤ n + 6 → JI Z xa ma X' V' → J_LW_law l Z mc ms post k' n' (X' ++ (V' ++ [la Z lc 1 lg'])) [(0, .ref Z.2.2.2.1), (1, .ref xa), (2, .ref ma), (3, .ref lc), (4, .int (nI iv))] 678 []) : J_LW_law l Z mc ms post k n (W ++ (V ++ [la Z lc 1 lg])) [(0, .ref Z.2.2.2.1), (1, .ref xa), (2, .ref ma), (3, .ref lc), (4, .int (nI iv))] 449 [] := by
  obtain ⟨kk, v, lg2, PX, PM, h1, h2, h3, h4⟩ := a_alter l Z xa ma lc lg (Z.2.2.2.2.2 (nI iv + 1).toNatClampNeg) (Z.2.2.2.2.2 (nI iv + 2).toNatClampNeg) W V hlt hJ
  obtain ⟨-, fs, hm0⟩ := hd_X hJ
  refine rw_aload_n (pc := 449) 1 rfl rfl (rx_dt dt_LW_law 249 rfl) ?_
  refine rw_aload_n (pc := 450) 0 rfl rfl (rx_dt dt_LW_law 250 rfl) ?_
  refine rw_iload (pc := 451) 4 rfl (rx_dt dt_LW_law 251 rfl) ?_
  refine rw_iconst (pc := 453) (v := 1) rfl (rx_dt dt_LW_law 252 rfl) ?_
  refine rw_iadd (pc := 454) (rx_dt dt_LW_law 253 rfl) ?_
  refine rw_sld (pc := 455) (in1 hiv hL) (rx_dt dt_LW_law 254 rfl) ?_
  refine rw_aload_n (pc := 456) 0 rfl rfl (rx_dt dt_LW_law 255 rfl) ?_
  refine rw_iload (pc := 457) 4 rfl (rx_dt dt_LW_law 256 rfl) ?_
  refine rw_iconst (pc := 459) (v := 2) rfl (rx_dt dt_LW_law 257 rfl) ?_
  refine rw_iadd (pc := 460) (rx_dt dt_LW_law 258 rfl) ?_
  refine rw_sld (pc := 461) (in2 hiv hL) (rx_dt dt_LW_law 259 rfl) ?_
  refine rw_aload_n (pc := 462) 3 rfl rfl (rx_dt dt_LW_law 260 rfl) ?_
  refine rw_callSWB (pc := 463) cww_LW_alter lx_LW_78 cs_LW_alter h1 (rest := []) (post' := fun r X' L' => r = (some (.int (nI kk))) ∧ PX X' ∧ L' = [la Z lc 1 lg2]) rfl (by decide) (fun _ => hb) (Nat.le_of_ble_eq_true rfl) rfl (rx_dt dt_LW_law 261 rfl) ?_
  rintro _ X' L' ⟨rfl, hX, rfl⟩
  show J_LW_law l Z mc ms post (k + 1) (n + 6) (X' ++ (V ++ [la Z lc 1 lg2])) [(0, .ref Z.2.2.2.1), (1, .ref xa), (2, .ref ma), (3, .ref lc), (4, .int (nI iv))] 466 [.int (nI kk)]
  refine rw_istore (pc := 466) (lv' := [(5, .int (nI kk)), (0, .ref Z.2.2.2.1), (1, .ref xa), (2, .ref ma), (3, .ref lc), (4, .int (nI iv))]) (by decide) rfl (rx_dt dt_LW_law 262 rfl) ?_
  refine rw_aload_n (pc := 468) 3 rfl rfl (rx_dt dt_LW_law 263 rfl) ?_
  refine rw_aload_n (pc := 469) 1 rfl rfl (rx_dt dt_LW_law 264 rfl) ?_
  refine rw_iload (pc := 470) 5 rfl (rx_dt dt_LW_law 265 rfl) ?_
  refine rw_iconst (pc := 472) (v := 1) rfl (rx_dt dt_LW_law 266 rfl) ?_
  refine rw_iadd (pc := 473) (rx_dt dt_LW_law 267 rfl) ?_
  refine rw_sld (pc := 474) (in1 hiv hL) (rx_dt dt_LW_law 268 rfl) ?_
  refine rw_aload_n (pc := 475) 1 rfl rfl (rx_dt dt_LW_law 269 rfl) ?_
  refine rw_iload (pc := 476) 5 rfl (rx_dt dt_LW_law 270 rfl) ?_
  refine rw_iconst (pc := 478) (v := 2) rfl (rx_dt dt_LW_law 271 rfl) ?_
  refine rw_iadd (pc := 479) (rx_dt dt_LW_law 272 rfl) ?_
  refine rw_sld (pc := 480) (in2 hiv hL) (rx_dt dt_LW_law 273 rfl) ?_
  refine rw_callVB (pc := 481) (A := X') (C := V) (B := [la Z lc 1 lg2]) (j := 0) (as := [.int (Z.2.2.2.2.2 (nI iv + 1).toNatClampNeg), .int (Z.2.2.2.2.2 (nI iv + 2).toNatClampNeg)]) (rest := []) cw_MD_alter lk_LW_80 ci_MD_alter rfl hm0 h2 rfl (by decide) (fun h => h) (Nat.le_of_ble_eq_true rfl) rfl (rx_dt dt_LW_law 274 rfl) ?_
  rintro _ V' ⟨rfl, hM⟩
  show J_LW_law l Z mc ms post (k + 1) (n + 6) (X' ++ (V' ++ [la Z lc 1 lg2])) [(5, .int (nI kk)), (0, .ref Z.2.2.2.1), (1, .ref xa), (2, .ref ma), (3, .ref lc), (4, .int (nI iv))] 484 [.int v]
  obtain ⟨⟨fs2, hm2⟩, PT, h5, h6⟩ := h4 X' V' hX hM
  refine rw_istore (pc := 484) (lv' := [(6, .int v), (5, .int (nI kk)), (0, .ref Z.2.2.2.1), (1, .ref xa), (2, .ref ma), (3, .ref lc), (4, .int (nI iv))]) (by decide) rfl (rx_dt dt_LW_law 275 rfl) ?_
  refine rw_aload_n (pc := 486) 4 rfl rfl (rx_dt dt_LW_law 276 rfl) ?_
  refine rw_callVB (pc := 487) (A := X') (C := V') (B := [la Z lc 1 lg2]) (j := 0) (as := []) (rest := []) cw_MD_thrown lk_LW_57 ci_MD_thrown rfl hm2 h5 rfl (by decide) (fun h => h) (Nat.le_of_ble_eq_true rfl) rfl (rx_dt dt_LW_law 277 rfl) ?_
  rintro _ V2 ⟨rfl, hM2⟩
  show J_LW_law l Z mc ms post (k + 1) (n + 6) (X' ++ (V2 ++ [la Z lc 1 lg2])) [(6, .int v), (5, .int (nI kk)), (0, .ref Z.2.2.2.1), (1, .ref xa), (2, .ref ma), (3, .ref lc), (4, .int (nI iv))] 490 [.int (nI kk)]
  have hJ2 := h6 V2 hM2
  have fin : J_LW_law l Z mc ms post (k + 1) (n + 6) (X' ++ (V2 ++ [la Z lc 1 lg2])) [(6, .int v), (5, .int (nI kk)), (0, .ref Z.2.2.2.1), (1, .ref xa), (2, .ref ma), (3, .ref lc), (4, .int (nI iv))] 514 [] := by
    refine rw_goto (pc := 514) (tgt := 678) (by decide) (rx_dt dt_LW_law 293 rfl) ?_
    exact rw_lv [2, 3, 4, 5, 6] rfl (NX (k + 1) (n + 6) lg2 X' V2 (Nat.le_refl _) (Nat.le_refl _) hJ2)
  refine rw_iload (pc := 490) 1 rfl (rx_dt dt_LW_law 278 rfl) ?_
  refine rw_icmp_eq_t (pc := 492) (tgt := 497) rfl (by decide) (rx_dt dt_LW_law 279 rfl) ?_
  refine rw_iload (pc := 497) 1 rfl (rx_dt dt_LW_law 282 rfl) ?_
  by_cases h0 : nI kk = 0
  · refine rw_if_ne_f (pc := 499) (tgt := 514) h0 (by decide) (rx_dt dt_LW_law 283 rfl) ?_
    refine rw_aload_n (pc := 502) 5 rfl rfl (rx_dt dt_LW_law 284 rfl) ?_
    refine rw_iconst (pc := 503) (v := 0) rfl (rx_dt dt_LW_law 285 rfl) ?_
    refine rw_lald (pc := 504) (X'.length + V2.length) (la_at X' V2 _) rfl (rx_dt dt_LW_law 286 rfl) ?_
    rw [h3 h0]
    refine rw_iload (pc := 505) 0 rfl (rx_dt dt_LW_law 287 rfl) ?_
    refine rw_i2l (pc := 507) (rx_dt dt_LW_law 288 rfl) ?_
    refine rw_lcmp (pc := 508) (rx_dt dt_LW_law 289 rfl) ?_
    rw [lcm_self]
    exact rw_if_eq_t (pc := 509) (tgt := 514) rfl (by decide) (rx_dt dt_LW_law 290 rfl) fin
  · exact rw_if_ne_t (pc := 499) (tgt := 514) h0 (by decide) (rx_dt dt_LW_law 283 rfl) fin
set_option maxRecDepth 100000 in
set_option maxHeartbeats 4000000 in
theorem ar_inflate (l : Launch) (Z : rx_D) (mc ms : Nat) (post : Option Value → va_W → Prop) (hlt : l.stackTraces = false) (k n iv xa ma lc : Nat) (lg : Nat → Int64) (W V : va_W) (hL : Z.2.2.2.2.1 < 2147483000) (hiv : iv + 3 ≤ Z.2.2.2.2.1) (hb : k + 1 ≤ mc ∧ n + 6 ≤ ms) (hJ : JI Z xa ma W V) (NX : ∀ (k' n' : Nat) (lg' : Nat → Int64) (X' V' : va_W), k' ≤ k + 1 → n' ≤ n + 6 → JI Z xa ma X' V' → J_LW_law l Z mc ms post k' n' (X' ++ (V' ++ [la Z lc 1 lg'])) [(0, .ref Z.2.2.2.1), (1, .ref xa), (2, .ref ma), (3, .ref lc), (4, .int (nI iv))] 678 []) : J_LW_law l Z mc ms post k n (W ++ (V ++ [la Z lc 1 lg])) [(0, .ref Z.2.2.2.1), (1, .ref xa), (2, .ref ma), (3, .ref lc), (4, .int (nI iv))] 517 [] := by
  obtain ⟨r, PX, PM, h1, h2, h3⟩ := a_inflate l Z xa ma  W V hJ
  obtain ⟨⟨fs, hx0⟩, fs2, hm0⟩ := hd_X hJ
  refine rw_aload_n (pc := 517) 1 rfl rfl (rx_dt dt_LW_law 294 rfl) ?_
  refine rw_callVB (pc := 518) (A := []) (C := W) (B := V ++ [la Z lc 1 lg]) (j := 0) (as := []) (rest := []) cw_DE_inflate lk_LW_81 ci_DE_inflate rfl hx0 h1 rfl (by decide) (fun h => h) (Nat.le_of_ble_eq_true rfl) rfl (rx_dt dt_LW_law 295 rfl) ?_
  rintro _ X' ⟨rfl, hX⟩
  show J_LW_law l Z mc ms post k n (X' ++ (V ++ [la Z lc 1 lg])) [(0, .ref Z.2.2.2.1), (1, .ref xa), (2, .ref ma), (3, .ref lc), (4, .int (nI iv))] 521 [.int r]
  refine rw_aload_n (pc := 521) 2 rfl rfl (rx_dt dt_LW_law 296 rfl) ?_
  refine rw_callVB (pc := 522) (A := X') (C := V) (B := [la Z lc 1 lg]) (j := 0) (as := []) (rest := [.int r]) cw_MD_inflate lk_LW_84 ci_MD_inflate rfl hm0 h2 rfl (by decide) (fun h => h) (Nat.le_of_ble_eq_true rfl) rfl (rx_dt dt_LW_law 297 rfl) ?_
  rintro _ V' ⟨rfl, hM⟩
  show J_LW_law l Z mc ms post k n (X' ++ (V' ++ [la Z lc 1 lg])) [(0, .ref Z.2.2.2.1), (1, .ref xa), (2, .ref ma), (3, .ref lc), (4, .int (nI iv))] 525 [.int r, .int r]
  exact rw_icmp_eq_t (pc := 525) (tgt := 678) rfl (by decide) (rx_dt dt_LW_law 298 rfl) (NX k n lg X' V' (Nat.le_succ _) (Nat.le_add_right _ _) (h3 X' V' hX hM))
set_option maxRecDepth 100000 in
set_option maxHeartbeats 4000000 in
theorem ar_out (l : Launch) (Z : rx_D) (mc ms : Nat) (post : Option Value → va_W → Prop) (hlt : l.stackTraces = false) (k n iv xa ma lc : Nat) (lg : Nat → Int64) (W V : va_W) (hL : Z.2.2.2.2.1 < 2147483000) (hiv : iv + 3 ≤ Z.2.2.2.2.1) (hb : k + 1 ≤ mc ∧ n + 6 ≤ ms) (hJ : JI Z xa ma W V) (NX : ∀ (k' n' : Nat) (lg' : Nat → Int64) (X' V' : va_W), k' ≤ k + 1 → n' ≤ n + 6 → JI Z xa ma X' V' → J_LW_law l Z mc ms post k' n' (X' ++ (V' ++ [la Z lc 1 lg'])) [(0, .ref Z.2.2.2.1), (1, .ref xa), (2, .ref ma), (3, .ref lc), (4, .int (nI iv))] 678 []) : J_LW_law l Z mc ms post k n (W ++ (V ++ [la Z lc 1 lg])) [(0, .ref Z.2.2.2.1), (1, .ref xa), (2, .ref ma), (3, .ref lc), (4, .int (nI iv))] 530 [] := by
  obtain ⟨kk, v, lg2, PX, PM, h1, h2, h3, h4⟩ := a_out l Z xa ma lc lg (Z.2.2.2.2.2 (nI iv + 1).toNatClampNeg) W V hlt hJ
  obtain ⟨-, fs, hm0⟩ := hd_X hJ
  refine rw_aload_n (pc := 530) 1 rfl rfl (rx_dt dt_LW_law 301 rfl) ?_
  refine rw_aload_n (pc := 531) 0 rfl rfl (rx_dt dt_LW_law 302 rfl) ?_
  refine rw_iload (pc := 532) 4 rfl (rx_dt dt_LW_law 303 rfl) ?_
  refine rw_iconst (pc := 534) (v := 1) rfl (rx_dt dt_LW_law 304 rfl) ?_
  refine rw_iadd (pc := 535) (rx_dt dt_LW_law 305 rfl) ?_
  refine rw_sld (pc := 536) (in1 hiv hL) (rx_dt dt_LW_law 306 rfl) ?_
  refine rw_aload_n (pc := 537) 3 rfl rfl (rx_dt dt_LW_law 307 rfl) ?_
  refine rw_callSWB (pc := 538) cww_LW_out lx_LW_85 cs_LW_out h1 (rest := []) (post' := fun r X' L' => r = (some (.int (nI kk))) ∧ PX X' ∧ L' = [la Z lc 1 lg2]) rfl (by decide) (fun _ => hb) (Nat.le_of_ble_eq_true rfl) rfl (rx_dt dt_LW_law 308 rfl) ?_
  rintro _ X' L' ⟨rfl, hX, rfl⟩
  show J_LW_law l Z mc ms post (k + 1) (n + 6) (X' ++ (V ++ [la Z lc 1 lg2])) [(0, .ref Z.2.2.2.1), (1, .ref xa), (2, .ref ma), (3, .ref lc), (4, .int (nI iv))] 541 [.int (nI kk)]
  refine rw_istore (pc := 541) (lv' := [(5, .int (nI kk)), (0, .ref Z.2.2.2.1), (1, .ref xa), (2, .ref ma), (3, .ref lc), (4, .int (nI iv))]) (by decide) rfl (rx_dt dt_LW_law 309 rfl) ?_
  refine rw_aload_n (pc := 543) 3 rfl rfl (rx_dt dt_LW_law 310 rfl) ?_
  refine rw_aload_n (pc := 544) 1 rfl rfl (rx_dt dt_LW_law 311 rfl) ?_
  refine rw_iload (pc := 545) 5 rfl (rx_dt dt_LW_law 312 rfl) ?_
  refine rw_iconst (pc := 547) (v := 1) rfl (rx_dt dt_LW_law 313 rfl) ?_
  refine rw_iadd (pc := 548) (rx_dt dt_LW_law 314 rfl) ?_
  refine rw_sld (pc := 549) (in1 hiv hL) (rx_dt dt_LW_law 315 rfl) ?_
  refine rw_callVB (pc := 550) (A := X') (C := V) (B := [la Z lc 1 lg2]) (j := 0) (as := [.int (Z.2.2.2.2.2 (nI iv + 1).toNatClampNeg)]) (rest := []) cw_MD_out lk_LW_87 ci_MD_out rfl hm0 h2 rfl (by decide) (fun h => h) (Nat.le_of_ble_eq_true rfl) rfl (rx_dt dt_LW_law 316 rfl) ?_
  rintro _ V' ⟨rfl, hM⟩
  show J_LW_law l Z mc ms post (k + 1) (n + 6) (X' ++ (V' ++ [la Z lc 1 lg2])) [(5, .int (nI kk)), (0, .ref Z.2.2.2.1), (1, .ref xa), (2, .ref ma), (3, .ref lc), (4, .int (nI iv))] 553 [.int v]
  obtain ⟨⟨fs2, hm2⟩, PT, h5, h6⟩ := h4 X' V' hX hM
  refine rw_istore (pc := 553) (lv' := [(6, .int v), (5, .int (nI kk)), (0, .ref Z.2.2.2.1), (1, .ref xa), (2, .ref ma), (3, .ref lc), (4, .int (nI iv))]) (by decide) rfl (rx_dt dt_LW_law 317 rfl) ?_
  refine rw_aload_n (pc := 555) 4 rfl rfl (rx_dt dt_LW_law 318 rfl) ?_
  refine rw_callVB (pc := 556) (A := X') (C := V') (B := [la Z lc 1 lg2]) (j := 0) (as := []) (rest := []) cw_MD_thrown lk_LW_57 ci_MD_thrown rfl hm2 h5 rfl (by decide) (fun h => h) (Nat.le_of_ble_eq_true rfl) rfl (rx_dt dt_LW_law 319 rfl) ?_
  rintro _ V2 ⟨rfl, hM2⟩
  show J_LW_law l Z mc ms post (k + 1) (n + 6) (X' ++ (V2 ++ [la Z lc 1 lg2])) [(6, .int v), (5, .int (nI kk)), (0, .ref Z.2.2.2.1), (1, .ref xa), (2, .ref ma), (3, .ref lc), (4, .int (nI iv))] 559 [.int (nI kk)]
  have hJ2 := h6 V2 hM2
  have fin : J_LW_law l Z mc ms post (k + 1) (n + 6) (X' ++ (V2 ++ [la Z lc 1 lg2])) [(6, .int v), (5, .int (nI kk)), (0, .ref Z.2.2.2.1), (1, .ref xa), (2, .ref ma), (3, .ref lc), (4, .int (nI iv))] 583 [] := by
    refine rw_goto (pc := 583) (tgt := 678) (by decide) (rx_dt dt_LW_law 335 rfl) ?_
    exact rw_lv [2, 3, 4, 5, 6] rfl (NX (k + 1) (n + 6) lg2 X' V2 (Nat.le_refl _) (Nat.le_refl _) hJ2)
  refine rw_iload (pc := 559) 1 rfl (rx_dt dt_LW_law 320 rfl) ?_
  refine rw_icmp_eq_t (pc := 561) (tgt := 566) rfl (by decide) (rx_dt dt_LW_law 321 rfl) ?_
  refine rw_iload (pc := 566) 1 rfl (rx_dt dt_LW_law 324 rfl) ?_
  by_cases h0 : nI kk = 0
  · refine rw_if_ne_f (pc := 568) (tgt := 583) h0 (by decide) (rx_dt dt_LW_law 325 rfl) ?_
    refine rw_aload_n (pc := 571) 5 rfl rfl (rx_dt dt_LW_law 326 rfl) ?_
    refine rw_iconst (pc := 572) (v := 0) rfl (rx_dt dt_LW_law 327 rfl) ?_
    refine rw_lald (pc := 573) (X'.length + V2.length) (la_at X' V2 _) rfl (rx_dt dt_LW_law 328 rfl) ?_
    rw [h3 h0]
    refine rw_iload (pc := 574) 0 rfl (rx_dt dt_LW_law 329 rfl) ?_
    refine rw_i2l (pc := 576) (rx_dt dt_LW_law 330 rfl) ?_
    refine rw_lcmp (pc := 577) (rx_dt dt_LW_law 331 rfl) ?_
    rw [lcm_self]
    exact rw_if_eq_t (pc := 578) (tgt := 583) rfl (by decide) (rx_dt dt_LW_law 332 rfl) fin
  · exact rw_if_ne_t (pc := 568) (tgt := 583) h0 (by decide) (rx_dt dt_LW_law 325 rfl) fin
set_option maxRecDepth 100000 in
set_option maxHeartbeats 4000000 in
theorem ar_sum (l : Launch) (Z : rx_D) (mc ms : Nat) (post : Option Value → va_W → Prop) (hlt : l.stackTraces = false) (k n iv xa ma lc : Nat) (lg : Nat → Int64) (W V : va_W) (hL : Z.2.2.2.2.1 < 2147483000) (hiv : iv + 3 ≤ Z.2.2.2.2.1) (hb : k + 1 ≤ mc ∧ n + 6 ≤ ms) (hJ : JI Z xa ma W V) (NX : ∀ (k' n' : Nat) (lg' : Nat → Int64) (X' V' : va_W), k' ≤ k + 1 → n' ≤ n + 6 → JI Z xa ma X' V' → J_LW_law l Z mc ms post k' n' (X' ++ (V' ++ [la Z lc 1 lg'])) [(0, .ref Z.2.2.2.1), (1, .ref xa), (2, .ref ma), (3, .ref lc), (4, .int (nI iv))] 678 []) : J_LW_law l Z mc ms post k n (W ++ (V ++ [la Z lc 1 lg])) [(0, .ref Z.2.2.2.1), (1, .ref xa), (2, .ref ma), (3, .ref lc), (4, .int (nI iv))] 586 [] := by
  obtain ⟨kk, v, lg2, PX, PM, h1, h2, h3, h4⟩ := a_sum l Z xa ma lc lg (Z.2.2.2.2.2 (nI iv + 1).toNatClampNeg) W V hlt hJ
  obtain ⟨-, fs, hm0⟩ := hd_X hJ
  refine rw_aload_n (pc := 586) 1 rfl rfl (rx_dt dt_LW_law 336 rfl) ?_
  refine rw_aload_n (pc := 587) 0 rfl rfl (rx_dt dt_LW_law 337 rfl) ?_
  refine rw_iload (pc := 588) 4 rfl (rx_dt dt_LW_law 338 rfl) ?_
  refine rw_iconst (pc := 590) (v := 1) rfl (rx_dt dt_LW_law 339 rfl) ?_
  refine rw_iadd (pc := 591) (rx_dt dt_LW_law 340 rfl) ?_
  refine rw_sld (pc := 592) (in1 hiv hL) (rx_dt dt_LW_law 341 rfl) ?_
  refine rw_aload_n (pc := 593) 3 rfl rfl (rx_dt dt_LW_law 342 rfl) ?_
  refine rw_callSWB (pc := 594) cww_LW_sum lx_LW_88 cs_LW_sum h1 (rest := []) (post' := fun r X' L' => r = (some (.int (nI kk))) ∧ PX X' ∧ L' = [la Z lc 1 lg2]) rfl (by decide) (fun _ => hb) (Nat.le_of_ble_eq_true rfl) rfl (rx_dt dt_LW_law 343 rfl) ?_
  rintro _ X' L' ⟨rfl, hX, rfl⟩
  show J_LW_law l Z mc ms post (k + 1) (n + 6) (X' ++ (V ++ [la Z lc 1 lg2])) [(0, .ref Z.2.2.2.1), (1, .ref xa), (2, .ref ma), (3, .ref lc), (4, .int (nI iv))] 597 [.int (nI kk)]
  refine rw_istore (pc := 597) (lv' := [(5, .int (nI kk)), (0, .ref Z.2.2.2.1), (1, .ref xa), (2, .ref ma), (3, .ref lc), (4, .int (nI iv))]) (by decide) rfl (rx_dt dt_LW_law 344 rfl) ?_
  refine rw_aload_n (pc := 599) 3 rfl rfl (rx_dt dt_LW_law 345 rfl) ?_
  refine rw_aload_n (pc := 600) 1 rfl rfl (rx_dt dt_LW_law 346 rfl) ?_
  refine rw_iload (pc := 601) 5 rfl (rx_dt dt_LW_law 347 rfl) ?_
  refine rw_iconst (pc := 603) (v := 1) rfl (rx_dt dt_LW_law 348 rfl) ?_
  refine rw_iadd (pc := 604) (rx_dt dt_LW_law 349 rfl) ?_
  refine rw_sld (pc := 605) (in1 hiv hL) (rx_dt dt_LW_law 350 rfl) ?_
  refine rw_callVB (pc := 606) (A := X') (C := V) (B := [la Z lc 1 lg2]) (j := 0) (as := [.int (Z.2.2.2.2.2 (nI iv + 1).toNatClampNeg)]) (rest := []) cw_MD_sum lk_LW_90 ci_MD_sum rfl hm0 h2 rfl (by decide) (fun h => h) (Nat.le_of_ble_eq_true rfl) rfl (rx_dt dt_LW_law 351 rfl) ?_
  rintro _ V' ⟨rfl, hM⟩
  show J_LW_law l Z mc ms post (k + 1) (n + 6) (X' ++ (V' ++ [la Z lc 1 lg2])) [(5, .int (nI kk)), (0, .ref Z.2.2.2.1), (1, .ref xa), (2, .ref ma), (3, .ref lc), (4, .int (nI iv))] 609 [.int v]
  obtain ⟨⟨fs2, hm2⟩, PT, h5, h6⟩ := h4 X' V' hX hM
  refine rw_istore (pc := 609) (lv' := [(6, .int v), (5, .int (nI kk)), (0, .ref Z.2.2.2.1), (1, .ref xa), (2, .ref ma), (3, .ref lc), (4, .int (nI iv))]) (by decide) rfl (rx_dt dt_LW_law 352 rfl) ?_
  refine rw_aload_n (pc := 611) 4 rfl rfl (rx_dt dt_LW_law 353 rfl) ?_
  refine rw_callVB (pc := 612) (A := X') (C := V') (B := [la Z lc 1 lg2]) (j := 0) (as := []) (rest := []) cw_MD_thrown lk_LW_57 ci_MD_thrown rfl hm2 h5 rfl (by decide) (fun h => h) (Nat.le_of_ble_eq_true rfl) rfl (rx_dt dt_LW_law 354 rfl) ?_
  rintro _ V2 ⟨rfl, hM2⟩
  show J_LW_law l Z mc ms post (k + 1) (n + 6) (X' ++ (V2 ++ [la Z lc 1 lg2])) [(6, .int v), (5, .int (nI kk)), (0, .ref Z.2.2.2.1), (1, .ref xa), (2, .ref ma), (3, .ref lc), (4, .int (nI iv))] 615 [.int (nI kk)]
  have hJ2 := h6 V2 hM2
  have fin : J_LW_law l Z mc ms post (k + 1) (n + 6) (X' ++ (V2 ++ [la Z lc 1 lg2])) [(6, .int v), (5, .int (nI kk)), (0, .ref Z.2.2.2.1), (1, .ref xa), (2, .ref ma), (3, .ref lc), (4, .int (nI iv))] 639 [] := by
    refine rw_goto (pc := 639) (tgt := 678) (by decide) (rx_dt dt_LW_law 370 rfl) ?_
    exact rw_lv [2, 3, 4, 5, 6] rfl (NX (k + 1) (n + 6) lg2 X' V2 (Nat.le_refl _) (Nat.le_refl _) hJ2)
  refine rw_iload (pc := 615) 1 rfl (rx_dt dt_LW_law 355 rfl) ?_
  refine rw_icmp_eq_t (pc := 617) (tgt := 622) rfl (by decide) (rx_dt dt_LW_law 356 rfl) ?_
  refine rw_iload (pc := 622) 1 rfl (rx_dt dt_LW_law 359 rfl) ?_
  by_cases h0 : nI kk = 0
  · refine rw_if_ne_f (pc := 624) (tgt := 639) h0 (by decide) (rx_dt dt_LW_law 360 rfl) ?_
    refine rw_aload_n (pc := 627) 5 rfl rfl (rx_dt dt_LW_law 361 rfl) ?_
    refine rw_iconst (pc := 628) (v := 0) rfl (rx_dt dt_LW_law 362 rfl) ?_
    refine rw_lald (pc := 629) (X'.length + V2.length) (la_at X' V2 _) rfl (rx_dt dt_LW_law 363 rfl) ?_
    rw [h3 h0]
    refine rw_iload (pc := 630) 0 rfl (rx_dt dt_LW_law 364 rfl) ?_
    refine rw_i2l (pc := 632) (rx_dt dt_LW_law 365 rfl) ?_
    refine rw_lcmp (pc := 633) (rx_dt dt_LW_law 366 rfl) ?_
    rw [lcm_self]
    exact rw_if_eq_t (pc := 634) (tgt := 639) rfl (by decide) (rx_dt dt_LW_law 367 rfl) fin
  · exact rw_if_ne_t (pc := 624) (tgt := 639) h0 (by decide) (rx_dt dt_LW_law 360 rfl) fin
set_option maxRecDepth 100000 in
set_option maxHeartbeats 4000000 in
theorem ar_told (l : Launch) (Z : rx_D) (mc ms : Nat) (post : Option Value → va_W → Prop) (hlt : l.stackTraces = false) (k n iv xa ma lc : Nat) (lg : Nat → Int64) (W V : va_W) (hL : Z.2.2.2.2.1 < 2147483000) (hiv : iv + 3 ≤ Z.2.2.2.2.1) (hb : k + 1 ≤ mc ∧ n + 6 ≤ ms) (hJ : JI Z xa ma W V) (NX : ∀ (k' n' : Nat) (lg' : Nat → Int64) (X' V' : va_W), k' ≤ k + 1 → n' ≤ n + 6 → JI Z xa ma X' V' → J_LW_law l Z mc ms post k' n' (X' ++ (V' ++ [la Z lc 1 lg'])) [(0, .ref Z.2.2.2.1), (1, .ref xa), (2, .ref ma), (3, .ref lc), (4, .int (nI iv))] 678 []) : J_LW_law l Z mc ms post k n (W ++ (V ++ [la Z lc 1 lg])) [(0, .ref Z.2.2.2.1), (1, .ref xa), (2, .ref ma), (3, .ref lc), (4, .int (nI iv))] 642 [] := by
  obtain ⟨r, PX, PM, h1, h2, h3⟩ := a_told l Z xa ma (Z.2.2.2.2.2 (nI iv + 1).toNatClampNeg) W V hJ
  obtain ⟨⟨fs, hx0⟩, fs2, hm0⟩ := hd_X hJ
  refine rw_aload_n (pc := 642) 1 rfl rfl (rx_dt dt_LW_law 371 rfl) ?_
  refine rw_aload_n (pc := 643) 0 rfl rfl (rx_dt dt_LW_law 372 rfl) ?_
  refine rw_iload (pc := 644) 4 rfl (rx_dt dt_LW_law 373 rfl) ?_
  refine rw_iconst (pc := 646) (v := 1) rfl (rx_dt dt_LW_law 374 rfl) ?_
  refine rw_iadd (pc := 647) (rx_dt dt_LW_law 375 rfl) ?_
  refine rw_sld (pc := 648) (in1 hiv hL) (rx_dt dt_LW_law 376 rfl) ?_
  refine rw_callVB (pc := 649) (A := []) (C := W) (B := V ++ [la Z lc 1 lg]) (j := 0) (as := [.int (Z.2.2.2.2.2 (nI iv + 1).toNatClampNeg)]) (rest := []) cw_DE_told lk_LW_91 ci_DE_told rfl hx0 h1 rfl (by decide) (fun h => h) (Nat.le_of_ble_eq_true rfl) rfl (rx_dt dt_LW_law 377 rfl) ?_
  rintro _ X' ⟨rfl, hX⟩
  show J_LW_law l Z mc ms post k n (X' ++ (V ++ [la Z lc 1 lg])) [(0, .ref Z.2.2.2.1), (1, .ref xa), (2, .ref ma), (3, .ref lc), (4, .int (nI iv))] 652 [.int r]
  refine rw_aload_n (pc := 652) 2 rfl rfl (rx_dt dt_LW_law 378 rfl) ?_
  refine rw_aload_n (pc := 653) 0 rfl rfl (rx_dt dt_LW_law 379 rfl) ?_
  refine rw_iload (pc := 654) 4 rfl (rx_dt dt_LW_law 380 rfl) ?_
  refine rw_iconst (pc := 656) (v := 1) rfl (rx_dt dt_LW_law 381 rfl) ?_
  refine rw_iadd (pc := 657) (rx_dt dt_LW_law 382 rfl) ?_
  refine rw_sld (pc := 658) (in1 hiv hL) (rx_dt dt_LW_law 383 rfl) ?_
  refine rw_callVB (pc := 659) (A := X') (C := V) (B := [la Z lc 1 lg]) (j := 0) (as := [.int (Z.2.2.2.2.2 (nI iv + 1).toNatClampNeg)]) (rest := [.int r]) cw_MD_told lk_LW_94 ci_MD_told rfl hm0 h2 rfl (by decide) (fun h => h) (Nat.le_of_ble_eq_true rfl) rfl (rx_dt dt_LW_law 384 rfl) ?_
  rintro _ V' ⟨rfl, hM⟩
  show J_LW_law l Z mc ms post k n (X' ++ (V' ++ [la Z lc 1 lg])) [(0, .ref Z.2.2.2.1), (1, .ref xa), (2, .ref ma), (3, .ref lc), (4, .int (nI iv))] 662 [.int r, .int r]
  exact rw_icmp_eq_t (pc := 662) (tgt := 678) rfl (by decide) (rx_dt dt_LW_law 385 rfl) (NX k n lg X' V' (Nat.le_succ _) (Nat.le_add_right _ _) (h3 X' V' hX hM))
set_option maxRecDepth 100000 in
set_option maxHeartbeats 4000000 in
theorem ar_clear (l : Launch) (Z : rx_D) (mc ms : Nat) (post : Option Value → va_W → Prop) (hlt : l.stackTraces = false) (k n iv xa ma lc : Nat) (lg : Nat → Int64) (W V : va_W) (hL : Z.2.2.2.2.1 < 2147483000) (hiv : iv + 3 ≤ Z.2.2.2.2.1) (hb : k + 1 ≤ mc ∧ n + 6 ≤ ms) (hJ : JI Z xa ma W V) (NX : ∀ (k' n' : Nat) (lg' : Nat → Int64) (X' V' : va_W), k' ≤ k + 1 → n' ≤ n + 6 → JI Z xa ma X' V' → J_LW_law l Z mc ms post k' n' (X' ++ (V' ++ [la Z lc 1 lg'])) [(0, .ref Z.2.2.2.1), (1, .ref xa), (2, .ref ma), (3, .ref lc), (4, .int (nI iv))] 678 []) : J_LW_law l Z mc ms post k n (W ++ (V ++ [la Z lc 1 lg])) [(0, .ref Z.2.2.2.1), (1, .ref xa), (2, .ref ma), (3, .ref lc), (4, .int (nI iv))] 667 [] := by
  obtain ⟨PX, PM, h1, h2, h3⟩ := a_clear l Z xa ma  W V hJ
  obtain ⟨⟨fs, hx0⟩, fs2, hm0⟩ := hd_X hJ
  refine rw_aload_n (pc := 667) 1 rfl rfl (rx_dt dt_LW_law 388 rfl) ?_
  refine rw_callVB (pc := 668) (A := []) (C := W) (B := V ++ [la Z lc 1 lg]) (j := 0) (as := []) (rest := []) cw_DE_clear lk_LW_95 ci_DE_clear rfl hx0 h1 rfl (by decide) (fun h => h) (Nat.le_of_ble_eq_true rfl) rfl (rx_dt dt_LW_law 389 rfl) ?_
  rintro _ X' ⟨rfl, hX⟩
  show J_LW_law l Z mc ms post k n (X' ++ (V ++ [la Z lc 1 lg])) [(0, .ref Z.2.2.2.1), (1, .ref xa), (2, .ref ma), (3, .ref lc), (4, .int (nI iv))] 671 []
  refine rw_aload_n (pc := 671) 2 rfl rfl (rx_dt dt_LW_law 390 rfl) ?_
  refine rw_callVB (pc := 672) (A := X') (C := V) (B := [la Z lc 1 lg]) (j := 0) (as := []) (rest := []) cw_MD_clear lk_LW_98 ci_MD_clear rfl hm0 h2 rfl (by decide) (fun h => h) (Nat.le_of_ble_eq_true rfl) rfl (rx_dt dt_LW_law 391 rfl) ?_
  rintro _ V' ⟨rfl, hM⟩
  show J_LW_law l Z mc ms post k n (X' ++ (V' ++ [la Z lc 1 lg])) [(0, .ref Z.2.2.2.1), (1, .ref xa), (2, .ref ma), (3, .ref lc), (4, .int (nI iv))] 675 []
  exact rw_goto (pc := 675) (tgt := 678) (by decide) (rx_dt dt_LW_law 392 rfl) (NX k n lg X' V' (Nat.le_succ _) (Nat.le_add_right _ _) (h3 X' V' hX hM))
