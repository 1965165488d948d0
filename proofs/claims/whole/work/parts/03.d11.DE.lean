abbrev b_DE_adler : ByteArray := prog_1_method_15_code
def y_DE_adler : MethodName := ⟨"DeflateEffort", "adler", "([II)I"⟩
def tb_DE_adler : List (Nat × Instr × Nat) := [(0, .iconst 1, 1), (1, .istore_n 2, 1), (2, .iconst 0, 1), (3, .istore_n 3, 1), (4, .iconst 0, 1), (5, .istore 4, 2), (7, .iload 4, 2), (9, .iload_n 1, 1), (10, .if_icmp .ge 33, 3), (13, .iload 4, 2), (15, .aload_n 0, 1), (16, .arraylength, 1), (17, .if_icmp .ge 26, 3), (20, .iload_n 2, 1), (21, .aload_n 0, 1), (22, .iload 4, 2), (24, .iaload, 1), (25, .iadd, 1), (26, .ldc 189, 2), (28, .irem, 1), (29, .istore_n 2, 1), (30, .iload_n 3, 1), (31, .iload_n 2, 1), (32, .iadd, 1), (33, .ldc 189, 2), (35, .irem, 1), (36, .istore_n 3, 1), (37, .iinc 4 1, 3), (40, .goto (-33), 3), (43, .iload_n 3, 1), (44, .bipush 16, 2), (46, .ishl, 1), (47, .iload_n 2, 1), (48, .ior, 1), (49, .ireturn, 1)]
theorem dt_DE_adler : rx_dtab b_DE_adler tb_DE_adler = true := by decide +kernel
abbrev b_DE_clear : ByteArray := prog_1_method_13_code
def y_DE_clear : MethodName := ⟨"DeflateEffort", "clear", "()V"⟩
def tb_DE_clear : List (Nat × Instr × Nat) := [(0, .aload_n 0, 1), (1, .iconst 0, 1), (2, .putfield 13, 3), (5, .aload_n 0, 1), (6, .iconst 0, 1), (7, .putfield 27, 3), (10, .aload_n 0, 1), (11, .getfield 50, 3), (14, .invokevirtual 184, 3), (17, .aload_n 0, 1), (18, .getfield 20, 3), (21, .invokevirtual 81, 3), (24, .aload_n 0, 1), (25, .getfield 57, 3), (28, .iconst 0, 1), (29, .invokevirtual 187, 3), (32, .return_, 1)]
theorem dt_DE_clear : rx_dtab b_DE_clear tb_DE_clear = true := by decide +kernel
abbrev b_DE_crc : ByteArray := prog_1_method_16_code
def y_DE_crc : MethodName := ⟨"DeflateEffort", "crc", "([II)I"⟩
def tb_DE_crc : List (Nat × Instr × Nat) := [(0, .iconst (-1), 1), (1, .istore_n 2, 1), (2, .iconst 0, 1), (3, .istore_n 3, 1), (4, .iload_n 3, 1), (5, .iload_n 1, 1), (6, .if_icmp .ge 57, 3), (9, .iload_n 3, 1), (10, .aload_n 0, 1), (11, .arraylength, 1), (12, .if_icmp .ge 51, 3), (15, .iload_n 2, 1), (16, .aload_n 0, 1), (17, .iload_n 3, 1), (18, .iaload, 1), (19, .ixor, 1), (20, .istore_n 2, 1), (21, .iconst 0, 1), (22, .istore 4, 2), (24, .iload 4, 2), (26, .bipush 8, 2), (28, .if_icmp .ge 29, 3), (31, .iload_n 2, 1), (32, .iconst 1, 1), (33, .iand, 1), (34, .iconst 1, 1), (35, .if_icmp .ne 12, 3), (38, .iload_n 2, 1), (39, .iconst 1, 1), (40, .iushr, 1), (41, .ldc 190, 2), (43, .ixor, 1), (44, .goto 6, 3), (47, .iload_n 2, 1), (48, .iconst 1, 1), (49, .iushr, 1), (50, .istore_n 2, 1), (51, .iinc 4 1, 3), (54, .goto (-30), 3), (57, .iinc 3 1, 3), (60, .goto (-56), 3), (63, .iload_n 2, 1), (64, .iconst (-1), 1), (65, .ixor, 1), (66, .ireturn, 1)]
theorem dt_DE_crc : rx_dtab b_DE_crc tb_DE_crc = true := by decide +kernel
abbrev b_DE_deflate : ByteArray := prog_1_method_3_code
def y_DE_deflate : MethodName := ⟨"DeflateEffort", "deflate", "()I"⟩
def tb_DE_deflate : List (Nat × Instr × Nat) := [(0, .aload_n 0, 1), (1, .getfield 50, 3), (4, .aload_n 0, 1), (5, .getfield 13, 3), (8, .invokevirtual 77, 3), (11, .aload_n 0, 1), (12, .getfield 20, 3), (15, .invokevirtual 81, 3), (18, .aload_n 0, 1), (19, .getfield 50, 3), (22, .getfield 84, 3), (25, .istore_n 1, 1), (26, .iconst 0, 1), (27, .istore_n 2, 1), (28, .iload_n 2, 1), (29, .iload_n 1, 1), (30, .if_icmp .ge 87, 3), (33, .aload_n 0, 1), (34, .getfield 50, 3), (37, .iload_n 2, 1), (38, .invokevirtual 87, 3), (41, .astore_n 3, 1), (42, .iload_n 2, 1), (43, .iconst 1, 1), (44, .iadd, 1), (45, .iload_n 1, 1), (46, .if_icmp .ne 7, 3), (49, .iconst 1, 1), (50, .goto 4, 3), (53, .iconst 0, 1), (54, .istore 4, 2), (56, .aload_n 3, 1), (57, .getfield 91, 3), (60, .ifCond .ne 27, 3), (63, .aload_n 0, 1), (64, .getfield 20, 3), (67, .aload_n 0, 1), (68, .getfield 9, 3), (71, .aload_n 3, 1), (72, .getfield 96, 3), (75, .aload_n 3, 1), (76, .getfield 99, 3), (79, .iload 4, 2), (81, .invokevirtual 102, 3), (84, .goto 27, 3), (87, .aload_n 0, 1), (88, .getfield 20, 3), (91, .aload_n 0, 1), (92, .getfield 50, 3), (95, .aload_n 3, 1), (96, .invokevirtual 106, 3), (99, .aload_n 0, 1), (100, .getfield 50, 3), (103, .getfield 110, 3), (106, .iload 4, 2), (108, .invokevirtual 114, 3), (111, .iinc 2 1, 3), (114, .goto (-86), 3), (117, .aload_n 0, 1), (118, .getfield 20, 3), (121, .invokevirtual 118, 3), (124, .ireturn, 1)]
theorem dt_DE_deflate : rx_dtab b_DE_deflate tb_DE_deflate = true := by decide +kernel
abbrev b_DE_distanceSymbol : ByteArray := prog_1_method_21_code
def y_DE_distanceSymbol : MethodName := ⟨"DeflateEffort", "distanceSymbol", "(I)I"⟩
def tb_DE_distanceSymbol : List (Nat × Instr × Nat) := [(0, .iconst 0, 1), (1, .istore_n 1, 1), (2, .iload_n 1, 1), (3, .iconst 1, 1), (4, .iadd, 1), (5, .getstatic 195, 3), (8, .arraylength, 1), (9, .if_icmp .ge 20, 3), (12, .getstatic 195, 3), (15, .iload_n 1, 1), (16, .iconst 1, 1), (17, .iadd, 1), (18, .iaload, 1), (19, .iload_n 0, 1), (20, .if_icmp .gt 9, 3), (23, .iinc 1 1, 3), (26, .goto (-24), 3), (29, .iload_n 1, 1), (30, .ireturn, 1)]
theorem dt_DE_distanceSymbol : rx_dtab b_DE_distanceSymbol tb_DE_distanceSymbol = true := by decide +kernel
abbrev b_DE_fixedCode : ByteArray := prog_1_method_25_code
def y_DE_fixedCode : MethodName := ⟨"DeflateEffort", "fixedCode", "(I)I"⟩
def tb_DE_fixedCode : List (Nat × Instr × Nat) := [(0, .iload_n 0, 1), (1, .sipush 144, 3), (4, .if_icmp .ge 8, 3), (7, .bipush 48, 2), (9, .iload_n 0, 1), (10, .iadd, 1), (11, .ireturn, 1), (12, .iload_n 0, 1), (13, .sipush 256, 3), (16, .if_icmp .ge 13, 3), (19, .sipush 400, 3), (22, .iload_n 0, 1), (23, .iadd, 1), (24, .sipush 144, 3), (27, .isub, 1), (28, .ireturn, 1), (29, .iload_n 0, 1), (30, .sipush 280, 3), (33, .if_icmp .ge 11, 3), (36, .iload_n 0, 1), (37, .sipush 256, 3), (40, .isub, 1), (41, .goto 12, 3), (44, .sipush 192, 3), (47, .iload_n 0, 1), (48, .iadd, 1), (49, .sipush 280, 3), (52, .isub, 1), (53, .ireturn, 1)]
theorem dt_DE_fixedCode : rx_dtab b_DE_fixedCode tb_DE_fixedCode = true := by decide +kernel
abbrev b_DE_fixedLength : ByteArray := prog_1_method_24_code
def y_DE_fixedLength : MethodName := ⟨"DeflateEffort", "fixedLength", "(I)I"⟩
def tb_DE_fixedLength : List (Nat × Instr × Nat) := [(0, .iload_n 0, 1), (1, .sipush 144, 3), (4, .if_icmp .ge 6, 3), (7, .bipush 8, 2), (9, .ireturn, 1), (10, .iload_n 0, 1), (11, .sipush 256, 3), (14, .if_icmp .ge 6, 3), (17, .bipush 9, 2), (19, .ireturn, 1), (20, .iload_n 0, 1), (21, .sipush 280, 3), (24, .if_icmp .ge 8, 3), (27, .bipush 7, 2), (29, .goto 5, 3), (32, .bipush 8, 2), (34, .ireturn, 1)]
theorem dt_DE_fixedLength : rx_dtab b_DE_fixedLength tb_DE_fixedLength = true := by decide +kernel
abbrev b_DE_inflate : ByteArray := prog_1_method_9_code
def y_DE_inflate : MethodName := ⟨"DeflateEffort", "inflate", "()I"⟩
def tb_DE_inflate : List (Nat × Instr × Nat) := [(0, .aload_n 0, 1), (1, .getfield 57, 3), (4, .aload_n 0, 1), (5, .getfield 27, 3), (8, .invokevirtual 150, 3), (11, .ireturn, 1)]
theorem dt_DE_inflate : rx_dtab b_DE_inflate tb_DE_inflate = true := by decide +kernel
abbrev b_DE_isByte : ByteArray := prog_1_method_14_code
def y_DE_isByte : MethodName := ⟨"DeflateEffort", "isByte", "(I)Z"⟩
def tb_DE_isByte : List (Nat × Instr × Nat) := [(0, .iload_n 0, 1), (1, .ifCond .lt 14, 3), (4, .iload_n 0, 1), (5, .sipush 255, 3), (8, .if_icmp .gt 7, 3), (11, .iconst 1, 1), (12, .goto 4, 3), (15, .iconst 0, 1), (16, .ireturn, 1)]
theorem dt_DE_isByte : rx_dtab b_DE_isByte tb_DE_isByte = true := by decide +kernel
abbrev b_DE_lengthSymbol : ByteArray := prog_1_method_20_code
def y_DE_lengthSymbol : MethodName := ⟨"DeflateEffort", "lengthSymbol", "(I)I"⟩
def tb_DE_lengthSymbol : List (Nat × Instr × Nat) := [(0, .iconst 0, 1), (1, .istore_n 1, 1), (2, .iload_n 1, 1), (3, .iconst 1, 1), (4, .iadd, 1), (5, .getstatic 192, 3), (8, .arraylength, 1), (9, .if_icmp .ge 20, 3), (12, .getstatic 192, 3), (15, .iload_n 1, 1), (16, .iconst 1, 1), (17, .iadd, 1), (18, .iaload, 1), (19, .iload_n 0, 1), (20, .if_icmp .gt 9, 3), (23, .iinc 1 1, 3), (26, .goto (-24), 3), (29, .sipush 257, 3), (32, .iload_n 1, 1), (33, .iadd, 1), (34, .ireturn, 1)]
theorem dt_DE_lengthSymbol : rx_dtab b_DE_lengthSymbol tb_DE_lengthSymbol = true := by decide +kernel
abbrev b_DE_literalExtra : ByteArray := prog_1_method_22_code
def y_DE_literalExtra : MethodName := ⟨"DeflateEffort", "literalExtra", "(I)I"⟩
def tb_DE_literalExtra : List (Nat × Instr × Nat) := [(0, .iload_n 0, 1), (1, .sipush 256, 3), (4, .isub, 1), (5, .iconst 1, 1), (6, .isub, 1), (7, .istore_n 1, 1), (8, .iload_n 1, 1), (9, .ifCond .lt 19, 3), (12, .iload_n 1, 1), (13, .getstatic 198, 3), (16, .arraylength, 1), (17, .if_icmp .ge 11, 3), (20, .getstatic 198, 3), (23, .iload_n 1, 1), (24, .iaload, 1), (25, .goto 4, 3), (28, .iconst 0, 1), (29, .ireturn, 1)]
theorem dt_DE_literalExtra : rx_dtab b_DE_literalExtra tb_DE_literalExtra = true := by decide +kernel
abbrev b_DE_matchToken : ByteArray := prog_1_method_17_code
def y_DE_matchToken : MethodName := ⟨"DeflateEffort", "matchToken", "(II)I"⟩
def tb_DE_matchToken : List (Nat × Instr × Nat) := [(0, .iload_n 0, 1), (1, .bipush 16, 2), (3, .ishl, 1), (4, .iload_n 1, 1), (5, .ior, 1), (6, .ireturn, 1)]
theorem dt_DE_matchToken : rx_dtab b_DE_matchToken tb_DE_matchToken = true := by decide +kernel
abbrev b_DE_repeatExtra : ByteArray := prog_1_method_23_code
def y_DE_repeatExtra : MethodName := ⟨"DeflateEffort", "repeatExtra", "(I)I"⟩
def tb_DE_repeatExtra : List (Nat × Instr × Nat) := [(0, .iload_n 0, 1), (1, .tableswitch 34 16 18 #[27, 29, 31], 27), (28, .iconst 2, 1), (29, .ireturn, 1), (30, .iconst 3, 1), (31, .ireturn, 1), (32, .bipush 7, 2), (34, .ireturn, 1), (35, .iconst 0, 1), (36, .ireturn, 1)]
theorem dt_DE_repeatExtra : rx_dtab b_DE_repeatExtra tb_DE_repeatExtra = true := by decide +kernel
abbrev b_DE_tokenDistance : ByteArray := prog_1_method_19_code
def y_DE_tokenDistance : MethodName := ⟨"DeflateEffort", "tokenDistance", "(I)I"⟩
def tb_DE_tokenDistance : List (Nat × Instr × Nat) := [(0, .iload_n 0, 1), (1, .ldc 191, 2), (3, .iand, 1), (4, .ireturn, 1)]
theorem dt_DE_tokenDistance : rx_dtab b_DE_tokenDistance tb_DE_tokenDistance = true := by decide +kernel
abbrev b_DE_tokenLength : ByteArray := prog_1_method_18_code
def y_DE_tokenLength : MethodName := ⟨"DeflateEffort", "tokenLength", "(I)I"⟩
def tb_DE_tokenLength : List (Nat × Instr × Nat) := [(0, .iload_n 0, 1), (1, .bipush 16, 2), (3, .iushr, 1), (4, .ireturn, 1)]
theorem dt_DE_tokenLength : rx_dtab b_DE_tokenLength tb_DE_tokenLength = true := by decide +kernel
abbrev b_DE_told : ByteArray := prog_1_method_12_code
def y_DE_told : MethodName := ⟨"DeflateEffort", "told", "(I)I"⟩
def tb_DE_told : List (Nat × Instr × Nat) := [(0, .iload_n 1, 1), (1, .tableswitch 126 0 9 #[55, 60, 65, 70, 78, 86, 97, 105, 110, 118], 55), (56, .aload_n 0, 1), (57, .getfield 39, 3), (60, .ireturn, 1), (61, .aload_n 0, 1), (62, .getfield 42, 3), (65, .ireturn, 1), (66, .aload_n 0, 1), (67, .getfield 13, 3), (70, .ireturn, 1), (71, .aload_n 0, 1), (72, .getfield 20, 3), (75, .invokevirtual 118, 3), (78, .ireturn, 1), (79, .aload_n 0, 1), (80, .getfield 50, 3), (83, .getfield 84, 3), (86, .ireturn, 1), (87, .aload_n 0, 1), (88, .getfield 50, 3), (91, .getfield 170, 3), (94, .getfield 173, 3), (97, .ireturn, 1), (98, .aload_n 0, 1), (99, .getfield 50, 3), (102, .invokevirtual 178, 3), (105, .ireturn, 1), (106, .aload_n 0, 1), (107, .getfield 27, 3), (110, .ireturn, 1), (111, .aload_n 0, 1), (112, .getfield 57, 3), (115, .getfield 153, 3), (118, .ireturn, 1), (119, .aload_n 0, 1), (120, .getfield 57, 3), (123, .getfield 181, 3), (126, .ireturn, 1), (127, .iconst (-1), 1), (128, .ireturn, 1)]
theorem dt_DE_told : rx_dtab b_DE_told tb_DE_told = true := by decide +kernel
