abbrev b_Code_halveCounts : ByteArray := prog_3_method_4_code
def y_Code_halveCounts : MethodName := ⟨"DeflateEffort$Code", "halveCounts", "()V"⟩
def tb_Code_halveCounts : List (Nat × Instr × Nat) := [(0, .iconst 0, 1), (1, .istore_n 1, 1), (2, .iload_n 1, 1), (3, .aload_n 0, 1), (4, .getfield 13, 3), (7, .arraylength, 1), (8, .if_icmp .ge 25, 3), (11, .aload_n 0, 1), (12, .getfield 13, 3), (15, .iload_n 1, 1), (16, .aload_n 0, 1), (17, .getfield 13, 3), (20, .iload_n 1, 1), (21, .iaload, 1), (22, .iconst 1, 1), (23, .iadd, 1), (24, .iconst 2, 1), (25, .idiv, 1), (26, .iastore, 1), (27, .iinc 1 1, 3), (30, .goto (-28), 3), (33, .return_, 1)]
theorem dt_Code_halveCounts : rx_dtab b_Code_halveCounts tb_Code_halveCounts = true := by decide +kernel
abbrev b_Code_longest : ByteArray := prog_3_method_2_code
def y_Code_longest : MethodName := ⟨"DeflateEffort$Code", "longest", "()I"⟩
def tb_Code_longest : List (Nat × Instr × Nat) := [(0, .iconst 0, 1), (1, .istore_n 1, 1), (2, .iconst 0, 1), (3, .istore_n 2, 1), (4, .iload_n 2, 1), (5, .aload_n 0, 1), (6, .getfield 19, 3), (9, .arraylength, 1), (10, .if_icmp .ge 20, 3), (13, .iload_n 1, 1), (14, .aload_n 0, 1), (15, .getfield 19, 3), (18, .iload_n 2, 1), (19, .iaload, 1), (20, .invokestatic 7, 3), (23, .istore_n 1, 1), (24, .iinc 2 1, 3), (27, .goto (-23), 3), (30, .iload_n 1, 1), (31, .ireturn, 1)]
theorem dt_Code_longest : rx_dtab b_Code_longest tb_Code_longest = true := by decide +kernel
abbrev b_Code_usedLengths : ByteArray := prog_3_method_3_code
def y_Code_usedLengths : MethodName := ⟨"DeflateEffort$Code", "usedLengths", "(I)I"⟩
def tb_Code_usedLengths : List (Nat × Instr × Nat) := [(0, .aload_n 0, 1), (1, .getfield 19, 3), (4, .arraylength, 1), (5, .istore_n 2, 1), (6, .iload_n 2, 1), (7, .iload_n 1, 1), (8, .if_icmp .le 24, 3), (11, .iload_n 2, 1), (12, .ifCond .le 20, 3), (15, .aload_n 0, 1), (16, .getfield 19, 3), (19, .iload_n 2, 1), (20, .iconst 1, 1), (21, .isub, 1), (22, .iaload, 1), (23, .ifCond .ne 9, 3), (26, .iinc 2 (-1), 3), (29, .goto (-23), 3), (32, .iload_n 2, 1), (33, .ireturn, 1)]
theorem dt_Code_usedLengths : rx_dtab b_Code_usedLengths tb_Code_usedLengths = true := by decide +kernel
