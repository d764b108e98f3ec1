-- 377 java/lang/StringLatin1.indexOf([BIII)I
def tb_d377 : List (Nat × Instr) := [(0, .iload_n 1), (1, .invokestatic 88), (4, .ifCond .ne 5), (7, .iconst (-1)), (8, .ireturn), (9, .iload_n 2), (10, .iconst 0), (11, .invokestatic 92), (14, .istore_n 2), (15, .iload_n 3), (16, .aload_n 0), (18, .invokestatic 38), (21, .istore_n 3), (22, .iload_n 2), (23, .iload_n 3), (24, .if_icmp .lt 5), (27, .iconst (-1)), (28, .ireturn), (29, .aload_n 0), (30, .iload_n 1), (31, .iload_n 2), (32, .iload_n 3), (33, .invokestatic 95), (36, .ireturn)]
set_option maxRecDepth 20000 in
theorem tb_e377 : ∀ q ∈ tb_d377, decode prog_22_method_22_code q.1 = .ok (q.2, mm_ln q.2) := by decide +kernel
-- 378 java/lang/StringLatin1.canEncode(I)Z
def tb_d378 : List (Nat × Instr) := [(0, .iload_n 0), (1, .ifCond .lt 14), (4, .iload_n 0), (5, .sipush 255), (8, .if_icmp .gt 7), (11, .iconst 1), (12, .goto 4), (15, .iconst 0), (16, .ireturn)]
set_option maxRecDepth 20000 in
theorem tb_e378 : ∀ q ∈ tb_d378, decode prog_22_method_4_code q.1 = .ok (q.2, mm_ln q.2) := by decide +kernel
-- 379 java/lang/StringLatin1.indexOfChar([BIII)I
def tb_d379 : List (Nat × Instr) := [(0, .iload_n 1), (1, .i2b), (2, .istore 4), (4, .iload_n 2), (5, .istore 5), (7, .iload 5), (9, .iload_n 3), (10, .if_icmp .ge 21), (13, .aload_n 0), (14, .iload 5), (17, .iload 4), (19, .if_icmp .ne 6), (22, .iload 5), (24, .ireturn), (25, .iinc 5 1), (28, .goto (-21)), (31, .iconst (-1)), (32, .ireturn)]
set_option maxRecDepth 20000 in
theorem tb_e379 : ∀ q ∈ tb_d379, decode prog_22_method_23_code q.1 = .ok (q.2, mm_ln q.2) := by decide +kernel
