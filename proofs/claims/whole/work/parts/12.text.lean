def tb_X8_fail : List (Nat × Jvm.ClassFile.Instr × Nat) := [(0, .aload_n 0, 1), (1, .iload_n 1, 1), (2, .putfield 25, 3), (5, .aload_n 0, 1), (6, .aload_n 0, 1), (7, .getfield 34, 3), (10, .putfield 28, 3), (13, .iconst 0, 1), (14, .ireturn, 1)]
set_option maxRecDepth 100000 in
theorem dt_X8_fail : ∀ q ∈ tb_X8_fail, decode cX8_fail q.1 = .ok q.2 := by decide +kernel
def tb_X8_advance : List (Nat × Jvm.ClassFile.Instr × Nat) := [(0, .aload_n 0, 1), (1, .aload_n 0, 1), (2, .getfield 37, 3), (5, .putfield 21, 3), (8, .aload_n 0, 1), (9, .aload_n 0, 1), (10, .getfield 34, 3), (13, .putfield 40, 3), (16, .aload_n 0, 1), (17, .getfield 46, 3), (20, .ifCond .lt 94, 3), (23, .aload_n 0, 1), (24, .getfield 46, 3), (27, .aload_n 0, 1), (28, .getfield 43, 3), (31, .if_icmp .ge 83, 3), (34, .aload_n 0, 1), (35, .getfield 46, 3), (38, .sipush 901, 3), (41, .if_icmp .ge 73, 3), (44, .aload_n 0, 1), (45, .aload_n 0, 1), (46, .getfield 57, 3), (49, .aload_n 0, 1), (50, .getfield 46, 3), (53, .iaload, 1), (54, .putfield 15, 3), (57, .aload_n 0, 1), (58, .aload_n 0, 1), (59, .getfield 61, 3), (62, .aload_n 0, 1), (63, .getfield 46, 3), (66, .iaload, 1), (67, .putfield 34, 3), (70, .aload_n 0, 1), (71, .aload_n 0, 1), (72, .getfield 64, 3), (75, .aload_n 0, 1), (76, .getfield 46, 3), (79, .laload, 1), (80, .putfield 37, 3), (83, .aload_n 0, 1), (84, .aload_n 0, 1), (85, .getfield 15, 3), (88, .iconst 1, 1), (89, .if_icmp .ne 11, 3), (92, .aload_n 0, 1), (93, .getfield 37, 3), (96, .l2i, 1), (97, .goto 4, 3), (100, .iconst (-1), 1), (101, .putfield 18, 3), (104, .aload_n 0, 1), (105, .dup, 1), (106, .getfield 46, 3), (109, .iconst 1, 1), (110, .iadd, 1), (111, .putfield 46, 3), (114, .return_, 1)]
set_option maxRecDepth 100000 in
theorem dt_X8_advance : ∀ q ∈ tb_X8_advance, decode cX8_advance q.1 = .ok q.2 := by decide +kernel
def tb_X8_failHere : List (Nat × Jvm.ClassFile.Instr × Nat) := [(0, .aload_n 0, 1), (1, .aload_n 0, 1), (2, .getfield 15, 3), (5, .bipush 6, 2), (7, .if_icmp .ne 7, 3), (10, .iconst 1, 1), (11, .goto 4, 3), (14, .iconst 2, 1), (15, .putfield 25, 3), (18, .aload_n 0, 1), (19, .aload_n 0, 1), (20, .getfield 34, 3), (23, .putfield 28, 3), (26, .iconst 0, 1), (27, .ireturn, 1)]
set_option maxRecDepth 100000 in
theorem dt_X8_failHere : ∀ q ∈ tb_X8_failHere, decode cX8_failHere q.1 = .ok q.2 := by decide +kernel
def tb_X8_passNumber : List (Nat × Jvm.ClassFile.Instr × Nat) := [(0, .aload_n 0, 1), (1, .getfield 15, 3), (4, .iconst 3, 1), (5, .if_icmp .eq 8, 3), (8, .aload_n 0, 1), (9, .invokevirtual 124, 3), (12, .ireturn, 1), (13, .aload_n 0, 1), (14, .getfield 37, 3), (17, .iload_n 1, 1), (18, .i2l, 1), (19, .lcmp, 1), (20, .ifCond .lt 13, 3), (23, .aload_n 0, 1), (24, .getfield 37, 3), (27, .iload_n 2, 1), (28, .i2l, 1), (29, .lcmp, 1), (30, .ifCond .le 9, 3), (33, .aload_n 0, 1), (34, .iconst 4, 1), (35, .invokevirtual 128, 3), (38, .ireturn, 1), (39, .aload_n 0, 1), (40, .invokevirtual 72, 3), (43, .iconst 1, 1), (44, .ireturn, 1)]
set_option maxRecDepth 100000 in
theorem dt_X8_passNumber : ∀ q ∈ tb_X8_passNumber, decode cX8_passNumber q.1 = .ok q.2 := by decide +kernel
def tb_X8_passedNumber : List (Nat × Jvm.ClassFile.Instr × Nat) := [(0, .aload_n 0, 1), (1, .getfield 21, 3), (4, .l2i, 1), (5, .ireturn, 1)]
set_option maxRecDepth 100000 in
theorem dt_X8_passedNumber : ∀ q ∈ tb_X8_passedNumber, decode cX8_passedNumber q.1 = .ok q.2 := by decide +kernel
def tb_X8_passSemicolon : List (Nat × Jvm.ClassFile.Instr × Nat) := [(0, .aload_n 0, 1), (1, .getfield 15, 3), (4, .iconst 4, 1), (5, .if_icmp .ne 14, 3), (8, .aload_n 0, 1), (9, .getfield 37, 3), (12, .ldc2_w 131, 3), (15, .lcmp, 1), (16, .ifCond .eq 8, 3), (19, .aload_n 0, 1), (20, .invokevirtual 124, 3), (23, .ireturn, 1), (24, .aload_n 0, 1), (25, .invokevirtual 72, 3), (28, .iconst 1, 1), (29, .ireturn, 1)]
set_option maxRecDepth 100000 in
theorem dt_X8_passSemicolon : ∀ q ∈ tb_X8_passSemicolon, decode cX8_passSemicolon q.1 = .ok q.2 := by decide +kernel
def tb_X8_passWord : List (Nat × Jvm.ClassFile.Instr × Nat) := [(0, .aload_n 0, 1), (1, .getfield 18, 3), (4, .iload_n 1, 1), (5, .if_icmp .eq 8, 3), (8, .aload_n 0, 1), (9, .invokevirtual 124, 3), (12, .ireturn, 1), (13, .aload_n 0, 1), (14, .invokevirtual 72, 3), (17, .iconst 1, 1), (18, .ireturn, 1)]
set_option maxRecDepth 100000 in
theorem dt_X8_passWord : ∀ q ∈ tb_X8_passWord, decode cX8_passWord q.1 = .ok q.2 := by decide +kernel
def tb_X8_passName : List (Nat × Jvm.ClassFile.Instr × Nat) := [(0, .aload_n 0, 1), (1, .getfield 15, 3), (4, .iconst 2, 1), (5, .if_icmp .eq 8, 3), (8, .aload_n 0, 1), (9, .invokevirtual 124, 3), (12, .ireturn, 1), (13, .aload_n 0, 1), (14, .invokevirtual 72, 3), (17, .iconst 1, 1), (18, .ireturn, 1)]
set_option maxRecDepth 100000 in
theorem dt_X8_passName : ∀ q ∈ tb_X8_passName, decode cX8_passName q.1 = .ok q.2 := by decide +kernel
def tb_X8_failPassed : List (Nat × Jvm.ClassFile.Instr × Nat) := [(0, .aload_n 0, 1), (1, .iload_n 1, 1), (2, .putfield 25, 3), (5, .aload_n 0, 1), (6, .aload_n 0, 1), (7, .getfield 40, 3), (10, .putfield 28, 3), (13, .iconst 0, 1), (14, .ireturn, 1)]
set_option maxRecDepth 100000 in
theorem dt_X8_failPassed : ∀ q ∈ tb_X8_failPassed, decode cX8_failPassed q.1 = .ok q.2 := by decide +kernel
def tb_X8_passCompare : List (Nat × Jvm.ClassFile.Instr × Nat) := [(0, .aload_n 0, 1), (1, .getfield 15, 3), (4, .iconst 4, 1), (5, .if_icmp .ne 14, 3), (8, .aload_n 0, 1), (9, .getfield 37, 3), (12, .ldc2_w 131, 3), (15, .lcmp, 1), (16, .ifCond .ne 8, 3), (19, .aload_n 0, 1), (20, .invokevirtual 124, 3), (23, .ireturn, 1), (24, .aload_n 0, 1), (25, .invokevirtual 72, 3), (28, .iconst 1, 1), (29, .ireturn, 1)]
set_option maxRecDepth 100000 in
theorem dt_X8_passCompare : ∀ q ∈ tb_X8_passCompare, decode cX8_passCompare q.1 = .ok q.2 := by decide +kernel
def tb_X8_hasRoomFor : List (Nat × Jvm.ClassFile.Instr × Nat) := [(0, .aload_n 0, 1), (1, .getfield 9, 3), (4, .sipush 900, 3), (7, .iload_n 1, 1), (8, .isub, 1), (9, .if_icmp .gt 7, 3), (12, .iconst 1, 1), (13, .goto 4, 3), (16, .iconst 0, 1), (17, .ireturn, 1)]
set_option maxRecDepth 100000 in
theorem dt_X8_hasRoomFor : ∀ q ∈ tb_X8_hasRoomFor, decode cX8_hasRoomFor q.1 = .ok q.2 := by decide +kernel
def tb_X8_append : List (Nat × Jvm.ClassFile.Instr × Nat) := [(0, .bipush 24, 2), (2, .istore_n 2, 1), (3, .iload_n 2, 1), (4, .ifCond .lt 49, 3), (7, .aload_n 0, 1), (8, .getfield 9, 3), (11, .ifCond .lt 36, 3), (14, .aload_n 0, 1), (15, .getfield 9, 3), (18, .sipush 900, 3), (21, .if_icmp .ge 26, 3), (24, .aload_n 0, 1), (25, .getfield 53, 3), (28, .aload_n 0, 1), (29, .getfield 9, 3), (32, .iload_n 1, 1), (33, .iload_n 2, 1), (34, .ishr, 1), (35, .i2b, 1), (36, .bastore, 1), (37, .aload_n 0, 1), (38, .dup, 1), (39, .getfield 9, 3), (42, .iconst 1, 1), (43, .iadd, 1), (44, .putfield 9, 3), (47, .iinc 2 (-8), 3), (50, .goto (-47), 3), (53, .return_, 1)]
set_option maxRecDepth 100000 in
theorem dt_X8_append : ∀ q ∈ tb_X8_append, decode cX8_append q.1 = .ok q.2 := by decide +kernel
def tb_X8_byteAt : List (Nat × Jvm.ClassFile.Instr × Nat) := [(0, .iload_n 1, 1), (1, .ifCond .lt 27, 3), (4, .iload_n 1, 1), (5, .aload_n 0, 1), (6, .getfield 31, 3), (9, .if_icmp .ge 19, 3), (12, .iload_n 1, 1), (13, .sipush 900, 3), (16, .if_icmp .ge 12, 3), (19, .aload_n 0, 1), (20, .getfield 53, 3), (23, .iload_n 1, 1), (24, .baload, 1), (25, .goto 4, 3), (28, .iconst (-1), 1), (29, .ireturn, 1)]
set_option maxRecDepth 100000 in
theorem dt_X8_byteAt : ∀ q ∈ tb_X8_byteAt, decode cX8_byteAt q.1 = .ok q.2 := by decide +kernel
def tb_X8_isBlank : List (Nat × Jvm.ClassFile.Instr × Nat) := [(0, .aload_n 0, 1), (1, .iload_n 1, 1), (2, .invokevirtual 75, 3), (5, .bipush 10, 2), (7, .if_icmp .eq 13, 3), (10, .aload_n 0, 1), (11, .iload_n 1, 1), (12, .invokevirtual 75, 3), (15, .bipush 32, 2), (17, .if_icmp .ne 7, 3), (20, .iconst 1, 1), (21, .goto 4, 3), (24, .iconst 0, 1), (25, .ireturn, 1)]
set_option maxRecDepth 100000 in
theorem dt_X8_isBlank : ∀ q ∈ tb_X8_isBlank, decode cX8_isBlank q.1 = .ok q.2 := by decide +kernel
def tb_X8_addToken : List (Nat × Jvm.ClassFile.Instr × Nat) := [(0, .aload_n 0, 1), (1, .getfield 43, 3), (4, .ifCond .lt 53, 3), (7, .aload_n 0, 1), (8, .getfield 43, 3), (11, .sipush 901, 3), (14, .if_icmp .ge 43, 3), (17, .aload_n 0, 1), (18, .getfield 57, 3), (21, .aload_n 0, 1), (22, .getfield 43, 3), (25, .iload_n 1, 1), (26, .iastore, 1), (27, .aload_n 0, 1), (28, .getfield 61, 3), (31, .aload_n 0, 1), (32, .getfield 43, 3), (35, .iload_n 2, 1), (36, .iastore, 1), (37, .aload_n 0, 1), (38, .getfield 64, 3), (41, .aload_n 0, 1), (42, .getfield 43, 3), (45, .lload_n 3, 1), (46, .lastore, 1), (47, .aload_n 0, 1), (48, .dup, 1), (49, .getfield 43, 3), (52, .iconst 1, 1), (53, .iadd, 1), (54, .putfield 43, 3), (57, .aload_n 0, 1), (58, .iload_n 1, 1), (59, .ifCond .eq 9, 3), (62, .iload_n 1, 1), (63, .bipush 6, 2), (65, .if_icmp .ne 7, 3), (68, .iconst 1, 1), (69, .goto 4, 3), (72, .iconst 0, 1), (73, .putfield 49, 3), (76, .return_, 1)]
set_option maxRecDepth 100000 in
theorem dt_X8_addToken : ∀ q ∈ tb_X8_addToken, decode cX8_addToken q.1 = .ok q.2 := by decide +kernel
def tb_X8_isLetter : List (Nat × Jvm.ClassFile.Instr × Nat) := [(0, .aload_n 0, 1), (1, .iload_n 1, 1), (2, .invokevirtual 75, 3), (5, .bipush 97, 2), (7, .if_icmp .lt 17, 3), (10, .aload_n 0, 1), (11, .iload_n 1, 1), (12, .invokevirtual 75, 3), (15, .bipush 122, 2), (17, .if_icmp .gt 7, 3), (20, .iconst 1, 1), (21, .goto 4, 3), (24, .iconst 0, 1), (25, .ireturn, 1)]
set_option maxRecDepth 100000 in
theorem dt_X8_isLetter : ∀ q ∈ tb_X8_isLetter, decode cX8_isLetter q.1 = .ok q.2 := by decide +kernel
def tb_X8_isWritten : List (Nat × Jvm.ClassFile.Instr × Nat) := [(0, .iconst 0, 1), (1, .istore 4, 2), (3, .iload 4, 2), (5, .iload_n 2, 1), (6, .iload_n 1, 1), (7, .isub, 1), (8, .if_icmp .ge 43, 3), (11, .iload_n 3, 1), (12, .iload 4, 2), (14, .iadd, 1), (15, .ldc 109, 2), (17, .invokevirtual 111, 3), (20, .if_icmp .ge 23, 3), (23, .ldc 109, 2), (25, .iload_n 3, 1), (26, .iload 4, 2), (28, .iadd, 1), (29, .invokevirtual 116, 3), (32, .aload_n 0, 1), (33, .iload_n 1, 1), (34, .iload 4, 2), (36, .iadd, 1), (37, .invokevirtual 75, 3), (40, .if_icmp .eq 5, 3), (43, .iconst 0, 1), (44, .ireturn, 1), (45, .iinc 4 1, 3), (48, .goto (-45), 3), (51, .iconst 1, 1), (52, .ireturn, 1)]
set_option maxRecDepth 100000 in
theorem dt_X8_isWritten : ∀ q ∈ tb_X8_isWritten, decode cX8_isWritten q.1 = .ok q.2 := by decide +kernel
def tb_X8_knownWord : List (Nat × Jvm.ClassFile.Instr × Nat) := [(0, .iconst 0, 1), (1, .istore_n 3, 1), (2, .iconst 0, 1), (3, .istore 4, 2), (5, .iconst 0, 1), (6, .istore 5, 2), (8, .iload 5, 2), (10, .ldc 109, 2), (12, .invokevirtual 111, 3), (15, .if_icmp .ge 54, 3), (18, .ldc 109, 2), (20, .iload 5, 2), (22, .invokevirtual 116, 3), (25, .bipush 32, 2), (27, .if_icmp .ne 36, 3), (30, .iload 5, 2), (32, .iload 4, 2), (34, .isub, 1), (35, .iload_n 2, 1), (36, .iload_n 1, 1), (37, .isub, 1), (38, .if_icmp .ne 16, 3), (41, .aload_n 0, 1), (42, .iload_n 1, 1), (43, .iload_n 2, 1), (44, .iload 4, 2), (46, .invokevirtual 120, 3), (49, .ifCond .eq 5, 3), (52, .iload_n 3, 1), (53, .ireturn, 1), (54, .iinc 3 1, 3), (57, .iload 5, 2), (59, .iconst 1, 1), (60, .iadd, 1), (61, .istore 4, 2), (63, .iinc 5 1, 3), (66, .goto (-58), 3), (69, .iconst (-1), 1), (70, .ireturn, 1)]
set_option maxRecDepth 100000 in
theorem dt_X8_knownWord : ∀ q ∈ tb_X8_knownWord, decode cX8_knownWord q.1 = .ok q.2 := by decide +kernel
def tb_X8_scanWord : List (Nat × Jvm.ClassFile.Instr × Nat) := [(0, .iload_n 1, 1), (1, .istore_n 2, 1), (2, .lconst 0, 1), (3, .lstore_n 3, 1), (4, .iload_n 2, 1), (5, .aload_n 0, 1), (6, .getfield 31, 3), (9, .if_icmp .ge 35, 3), (12, .aload_n 0, 1), (13, .iload_n 2, 1), (14, .invokevirtual 86, 3), (17, .ifCond .eq 27, 3), (20, .lload_n 3, 1), (21, .ldc2_w 101, 3), (24, .lmul, 1), (25, .aload_n 0, 1), (26, .iload_n 2, 1), (27, .invokevirtual 75, 3), (30, .bipush 97, 2), (32, .isub, 1), (33, .iconst 1, 1), (34, .iadd, 1), (35, .i2l, 1), (36, .ladd, 1), (37, .lstore_n 3, 1), (38, .iinc 2 1, 3), (41, .goto (-37), 3), (44, .aload_n 0, 1), (45, .iload_n 1, 1), (46, .iload_n 2, 1), (47, .invokevirtual 103, 3), (50, .istore 5, 2), (52, .iload 5, 2), (54, .iconst (-1), 1), (55, .if_icmp .eq 15, 3), (58, .aload_n 0, 1), (59, .iconst 1, 1), (60, .iload_n 1, 1), (61, .iload 5, 2), (63, .i2l, 1), (64, .invokevirtual 82, 3), (67, .goto 22, 3), (70, .aload_n 0, 1), (71, .iload_n 2, 1), (72, .iload_n 1, 1), (73, .isub, 1), (74, .bipush 8, 2), (76, .if_icmp .gt 7, 3), (79, .iconst 2, 1), (80, .goto 4, 3), (83, .iconst 5, 1), (84, .iload_n 1, 1), (85, .lload_n 3, 1), (86, .invokevirtual 82, 3), (89, .iload_n 2, 1), (90, .ireturn, 1)]
set_option maxRecDepth 100000 in
theorem dt_X8_scanWord : ∀ q ∈ tb_X8_scanWord, decode cX8_scanWord q.1 = .ok q.2 := by decide +kernel
def tb_X8_isDigit : List (Nat × Jvm.ClassFile.Instr × Nat) := [(0, .aload_n 0, 1), (1, .iload_n 1, 1), (2, .invokevirtual 75, 3), (5, .bipush 48, 2), (7, .if_icmp .lt 17, 3), (10, .aload_n 0, 1), (11, .iload_n 1, 1), (12, .invokevirtual 75, 3), (15, .bipush 57, 2), (17, .if_icmp .gt 7, 3), (20, .iconst 1, 1), (21, .goto 4, 3), (24, .iconst 0, 1), (25, .ireturn, 1)]
set_option maxRecDepth 100000 in
theorem dt_X8_isDigit : ∀ q ∈ tb_X8_isDigit, decode cX8_isDigit q.1 = .ok q.2 := by decide +kernel
def tb_X8_scanNumber : List (Nat × Jvm.ClassFile.Instr × Nat) := [(0, .iload_n 1, 1), (1, .istore_n 2, 1), (2, .lconst 0, 1), (3, .lstore_n 3, 1), (4, .iload_n 2, 1), (5, .aload_n 0, 1), (6, .getfield 31, 3), (9, .if_icmp .ge 33, 3), (12, .aload_n 0, 1), (13, .iload_n 2, 1), (14, .invokevirtual 92, 3), (17, .ifCond .eq 25, 3), (20, .lload_n 3, 1), (21, .ldc2_w 107, 3), (24, .lmul, 1), (25, .aload_n 0, 1), (26, .iload_n 2, 1), (27, .invokevirtual 75, 3), (30, .bipush 48, 2), (32, .isub, 1), (33, .i2l, 1), (34, .ladd, 1), (35, .lstore_n 3, 1), (36, .iinc 2 1, 3), (39, .goto (-35), 3), (42, .aload_n 0, 1), (43, .iload_n 2, 1), (44, .iload_n 1, 1), (45, .isub, 1), (46, .iconst 4, 1), (47, .if_icmp .gt 7, 3), (50, .iconst 3, 1), (51, .goto 5, 3), (54, .bipush 6, 2), (56, .iload_n 1, 1), (57, .lload_n 3, 1), (58, .invokevirtual 82, 3), (61, .iload_n 2, 1), (62, .ireturn, 1)]
set_option maxRecDepth 100000 in
theorem dt_X8_scanNumber : ∀ q ∈ tb_X8_scanNumber, decode cX8_scanNumber q.1 = .ok q.2 := by decide +kernel
def tb_X8_isSignAt : List (Nat × Jvm.ClassFile.Instr × Nat) := [(0, .aload_n 0, 1), (1, .iload_n 1, 1), (2, .invokevirtual 75, 3), (5, .istore_n 2, 1), (6, .iload_n 2, 1), (7, .bipush 59, 2), (9, .if_icmp .eq 21, 3), (12, .iload_n 2, 1), (13, .bipush 60, 2), (15, .if_icmp .eq 15, 3), (18, .iload_n 2, 1), (19, .bipush 62, 2), (21, .if_icmp .eq 9, 3), (24, .iload_n 2, 1), (25, .bipush 61, 2), (27, .if_icmp .ne 7, 3), (30, .iconst 1, 1), (31, .goto 4, 3), (34, .iconst 0, 1), (35, .ireturn, 1)]
set_option maxRecDepth 100000 in
theorem dt_X8_isSignAt : ∀ q ∈ tb_X8_isSignAt, decode cX8_isSignAt q.1 = .ok q.2 := by decide +kernel
def tb_X8_scanToken : List (Nat × Jvm.ClassFile.Instr × Nat) := [(0, .iload_n 1, 1), (1, .istore_n 2, 1), (2, .iload_n 2, 1), (3, .aload_n 0, 1), (4, .getfield 31, 3), (7, .if_icmp .ge 17, 3), (10, .aload_n 0, 1), (11, .iload_n 2, 1), (12, .invokevirtual 78, 3), (15, .ifCond .eq 9, 3), (18, .iinc 2 1, 3), (21, .goto (-19), 3), (24, .iload_n 2, 1), (25, .aload_n 0, 1), (26, .getfield 31, 3), (29, .if_icmp .lt 15, 3), (32, .aload_n 0, 1), (33, .iconst 0, 1), (34, .aload_n 0, 1), (35, .getfield 31, 3), (38, .lconst 0, 1), (39, .invokevirtual 82, 3), (42, .iload_n 2, 1), (43, .ireturn, 1), (44, .aload_n 0, 1), (45, .iload_n 2, 1), (46, .invokevirtual 86, 3), (49, .ifCond .eq 9, 3), (52, .aload_n 0, 1), (53, .iload_n 2, 1), (54, .invokevirtual 89, 3), (57, .ireturn, 1), (58, .aload_n 0, 1), (59, .iload_n 2, 1), (60, .invokevirtual 92, 3), (63, .ifCond .eq 9, 3), (66, .aload_n 0, 1), (67, .iload_n 2, 1), (68, .invokevirtual 95, 3), (71, .ireturn, 1), (72, .aload_n 0, 1), (73, .aload_n 0, 1), (74, .iload_n 2, 1), (75, .invokevirtual 98, 3), (78, .ifCond .eq 7, 3), (81, .iconst 4, 1), (82, .goto 5, 3), (85, .bipush 6, 2), (87, .iload_n 2, 1), (88, .aload_n 0, 1), (89, .iload_n 2, 1), (90, .invokevirtual 75, 3), (93, .i2l, 1), (94, .invokevirtual 82, 3), (97, .iload_n 2, 1), (98, .iconst 1, 1), (99, .iadd, 1), (100, .ireturn, 1)]
set_option maxRecDepth 100000 in
theorem dt_X8_scanToken : ∀ q ∈ tb_X8_scanToken, decode cX8_scanToken q.1 = .ok q.2 := by decide +kernel
def tb_X8_begin : List (Nat × Jvm.ClassFile.Instr × Nat) := [(0, .aload_n 0, 1), (1, .iconst 0, 1), (2, .putfield 9, 3), (5, .aload_n 0, 1), (6, .iload_n 1, 1), (7, .sipush 900, 3), (10, .if_icmp .ge 7, 3), (13, .iload_n 1, 1), (14, .goto 6, 3), (17, .sipush 900, 3), (20, .putfield 31, 3), (23, .aload_n 0, 1), (24, .iconst 0, 1), (25, .putfield 43, 3), (28, .aload_n 0, 1), (29, .iconst 0, 1), (30, .putfield 25, 3), (33, .aload_n 0, 1), (34, .iconst (-1), 1), (35, .putfield 28, 3), (38, .iconst 0, 1), (39, .istore_n 2, 1), (40, .aload_n 0, 1), (41, .iconst 0, 1), (42, .putfield 49, 3), (45, .iconst 0, 1), (46, .istore_n 3, 1), (47, .iload_n 3, 1), (48, .sipush 901, 3), (51, .if_icmp .ge 22, 3), (54, .aload_n 0, 1), (55, .getfield 49, 3), (58, .ifCond .ne 15, 3), (61, .aload_n 0, 1), (62, .iload_n 2, 1), (63, .invokevirtual 68, 3), (66, .istore_n 2, 1), (67, .iinc 3 1, 3), (70, .goto (-23), 3), (73, .aload_n 0, 1), (74, .iconst 0, 1), (75, .putfield 46, 3), (78, .aload_n 0, 1), (79, .invokevirtual 72, 3), (82, .return_, 1)]
set_option maxRecDepth 100000 in
theorem dt_X8_begin : ∀ q ∈ tb_X8_begin, decode cX8_begin q.1 = .ok q.2 := by decide +kernel
def F_X8_fail (x1 : Int32) (w : GW) : Option (Int32 × GW) := (some ((0 : Int32), (gI (gI w 0 4 x1) 0 5 (w.1 0 7))))
def f_X8_advance_101 (s0 : Int32) (w : GW) : Option GW := (some (gI (gI w 0 2 s0) 0 11 ((w.1 0 11) + (1 : Int32))))
def F_X8_advance (w : GW) : Option GW := (if (w.1 0 11) < 0 then (some (gI (gL w 0 3 (w.2 0 8)) 0 9 (w.1 0 7))) else (if (w.1 0 10) ≤ (w.1 0 11) then (some (gI (gL w 0 3 (w.2 0 8)) 0 9 (w.1 0 7))) else (if (901 : Int32) ≤ (w.1 0 11) then (some (gI (gL w 0 3 (w.2 0 8)) 0 9 (w.1 0 7))) else (if gin (w.1 0 11) 901 then (if (w.1 2 (w.1 0 11).toNatClampNeg) = (1 : Int32) then (f_X8_advance_101 (w.2 4 (w.1 0 11).toNatClampNeg).toInt32 (gL (gI (gI (gI (gL w 0 3 (w.2 0 8)) 0 9 (w.1 0 7)) 0 1 (w.1 2 (w.1 0 11).toNatClampNeg)) 0 7 (w.1 3 (w.1 0 11).toNatClampNeg)) 0 8 (w.2 4 (w.1 0 11).toNatClampNeg))) else (f_X8_advance_101 (-1 : Int32) (gL (gI (gI (gI (gL w 0 3 (w.2 0 8)) 0 9 (w.1 0 7)) 0 1 (w.1 2 (w.1 0 11).toNatClampNeg)) 0 7 (w.1 3 (w.1 0 11).toNatClampNeg)) 0 8 (w.2 4 (w.1 0 11).toNatClampNeg)))) else none))))
def f_X8_failHere_15 (s0 : Int32) (w : GW) : Option (Int32 × GW) := (some ((0 : Int32), (gI (gI w 0 4 s0) 0 5 (w.1 0 7))))
def F_X8_failHere (w : GW) : Option (Int32 × GW) := (if (w.1 0 1) = (6 : Int32) then (f_X8_failHere_15 (1 : Int32) w) else (f_X8_failHere_15 (2 : Int32) w))
def f_X8_passNumber_33 (w : GW) : Option (Int32 × GW) := ((F_X8_fail (4 : Int32) w).bind fun q7 => (if q7.1 = 0 ∨ q7.1 = 1 then some (q7.1, q7.2) else none))
def F_X8_passNumber (x1 : Int32) (x2 : Int32) (w : GW) : Option (Int32 × GW) := (if (w.1 0 1) = (3 : Int32) then (if (lg_cmp (w.2 0 8) x1.toInt64) < 0 then (f_X8_passNumber_33 w) else (if (lg_cmp (w.2 0 8) x2.toInt64) ≤ 0 then ((F_X8_advance w).bind fun q4 => (some ((1 : Int32), q4))) else (f_X8_passNumber_33 w))) else ((F_X8_failHere w).bind fun q5 => (if q5.1 = 0 ∨ q5.1 = 1 then some (q5.1, q5.2) else none)))
def F_X8_passedNumber (w : GW) : Option Int32 := (some (w.2 0 3).toInt32)
def f_X8_passSemicolon_19 (w : GW) : Option (Int32 × GW) := ((F_X8_failHere w).bind fun q4 => (if q4.1 = 0 ∨ q4.1 = 1 then some (q4.1, q4.2) else none))
def F_X8_passSemicolon (w : GW) : Option (Int32 × GW) := (if (w.1 0 1) = (4 : Int32) then (if (lg_cmp (w.2 0 8) (59 : Int64)) = 0 then ((F_X8_advance w).bind fun q3 => (some ((1 : Int32), q3))) else (f_X8_passSemicolon_19 w)) else (f_X8_passSemicolon_19 w))
def F_X8_passWord (x1 : Int32) (w : GW) : Option (Int32 × GW) := (if (w.1 0 2) = x1 then ((F_X8_advance w).bind fun q2 => (some ((1 : Int32), q2))) else ((F_X8_failHere w).bind fun q3 => (if q3.1 = 0 ∨ q3.1 = 1 then some (q3.1, q3.2) else none)))
def F_X8_passName (w : GW) : Option (Int32 × GW) := (if (w.1 0 1) = (2 : Int32) then ((F_X8_advance w).bind fun q2 => (some ((1 : Int32), q2))) else ((F_X8_failHere w).bind fun q3 => (if q3.1 = 0 ∨ q3.1 = 1 then some (q3.1, q3.2) else none)))
def F_X8_failPassed (x1 : Int32) (w : GW) : Option (Int32 × GW) := (some ((0 : Int32), (gI (gI w 0 4 x1) 0 5 (w.1 0 9))))
def f_X8_passCompare_19 (w : GW) : Option (Int32 × GW) := ((F_X8_failHere w).bind fun q4 => (if q4.1 = 0 ∨ q4.1 = 1 then some (q4.1, q4.2) else none))
def F_X8_passCompare (w : GW) : Option (Int32 × GW) := (if (w.1 0 1) = (4 : Int32) then (if (lg_cmp (w.2 0 8) (59 : Int64)) = 0 then (f_X8_passCompare_19 w) else ((F_X8_advance w).bind fun q3 => (some ((1 : Int32), q3)))) else (f_X8_passCompare_19 w))
def F_X8_hasRoomFor (w : GW) (x1 : Int32) : Option Int32 := (if ((900 : Int32) - x1) < (w.1 0 0) then (some (0 : Int32)) else (some (1 : Int32)))
def f_X8_append_47 (k3 : Int32 → Int32 → GW → Option GW) (x1 : Int32) (x2 : Int32) (w : GW) : Option GW := (k3 x1 (x2 + (-8 : Int32)) w)
def b_X8_append_3 (k3 : Int32 → Int32 → GW → Option GW) (x1 : Int32) (x2 : Int32) (w : GW) : Option GW := (if x2 < 0 then (some w) else (if (w.1 0 0) < 0 then (f_X8_append_47 k3 x1 x2 w) else (if (900 : Int32) ≤ (w.1 0 0) then (f_X8_append_47 k3 x1 x2 w) else (if gin (w.1 0 0) 900 then (f_X8_append_47 k3 x1 x2 (gI (gI w 1 (w.1 0 0).toNatClampNeg (vp_nar .byte (x1 >>> (x2 &&& 31)).toInt8.toInt32)) 0 0 ((w.1 0 0) + (1 : Int32)))) else none))))
def f_X8_append_3 : Nat → Int32 → Int32 → GW → Option GW
  | 0, _, _, _ => none
  | n + 1, x1, x2, w => b_X8_append_3 (f_X8_append_3 n) x1 x2 w
def F_X8_append (x1 : Int32) (w : GW) : Option GW := (f_X8_append_3 FU x1 (24 : Int32) w)
def F_X8_byteAt (w : GW) (x1 : Int32) : Option Int32 := (if x1 < 0 then (some (-1 : Int32)) else (if (w.1 0 6) ≤ x1 then (some (-1 : Int32)) else (if (900 : Int32) ≤ x1 then (some (-1 : Int32)) else (if gin x1 900 then (some (w.1 1 x1.toNatClampNeg)) else none))))
def F_X8_isBlank (w : GW) (x1 : Int32) : Option Int32 := ((F_X8_byteAt w x1).bind fun q1 => (if q1 = (10 : Int32) then (some (1 : Int32)) else ((F_X8_byteAt w x1).bind fun q3 => (if q3 = (32 : Int32) then (some (1 : Int32)) else (some (0 : Int32))))))
def f_X8_addToken_73 (s0 : Int32) (w : GW) : Option GW := (if s0 = 0 ∨ s0 = 1 then (some (gI w 0 12 s0)) else none)
def f_X8_addToken_68 (w : GW) : Option GW := (f_X8_addToken_73 (1 : Int32) w)
def f_X8_addToken_57 (x1 : Int32) (w : GW) : Option GW := (if x1 = 0 then (f_X8_addToken_68 w) else (if x1 = (6 : Int32) then (f_X8_addToken_68 w) else (f_X8_addToken_73 (0 : Int32) w)))
def F_X8_addToken (x1 : Int32) (x2 : Int32) (x3 : Int64) (w : GW) : Option GW := (if (w.1 0 10) < 0 then (f_X8_addToken_57 x1 w) else (if (901 : Int32) ≤ (w.1 0 10) then (f_X8_addToken_57 x1 w) else (if gin (w.1 0 10) 901 then (f_X8_addToken_57 x1 (gI (gL (gI (gI w 2 (w.1 0 10).toNatClampNeg x1) 3 (w.1 0 10).toNatClampNeg x2) 4 (w.1 0 10).toNatClampNeg x3) 0 10 ((w.1 0 10) + (1 : Int32)))) else none)))
def F_X8_isLetter (w : GW) (x1 : Int32) : Option Int32 := ((F_X8_byteAt w x1).bind fun q1 => (if q1 < (97 : Int32) then (some (0 : Int32)) else ((F_X8_byteAt w x1).bind fun q3 => (if (122 : Int32) < q3 then (some (0 : Int32)) else (some (1 : Int32))))))
def b_X8_isWritten_3 (k3 : Int32 → Int32 → Int32 → Int32 → Option Int32) (w : GW) (x1 : Int32) (x2 : Int32) (x3 : Int32) (x4 : Int32) : Option Int32 := (if (x2 - x1) ≤ x4 then (some (1 : Int32)) else (if (140 : Int32) ≤ (x3 + x4) then (some (0 : Int32)) else (if gin (x3 + x4) 140 then ((F_X8_byteAt w (x1 + x4)).bind fun q4 => (if (txW.getD (x3 + x4).toNatClampNeg 0) = q4 then (k3 x1 x2 x3 (x4 + (1 : Int32))) else (some (0 : Int32)))) else none)))
def f_X8_isWritten_3 (w : GW) : Nat → Int32 → Int32 → Int32 → Int32 → Option Int32
  | 0, _, _, _, _ => none
  | n + 1, x1, x2, x3, x4 => b_X8_isWritten_3 (f_X8_isWritten_3 w n) w x1 x2 x3 x4
def F_X8_isWritten (w : GW) (x1 : Int32) (x2 : Int32) (x3 : Int32) : Option Int32 := (f_X8_isWritten_3 w FU x1 x2 x3 (0 : Int32))
def f_X8_knownWord_63 (k8 : Int32 → Int32 → Int32 → Int32 → Int32 → Option Int32) (w : GW) (x1 : Int32) (x2 : Int32) (x3 : Int32) (x4 : Int32) (x5 : Int32) : Option Int32 := (k8 x1 x2 x3 x4 (x5 + (1 : Int32)))
def f_X8_knownWord_54 (k8 : Int32 → Int32 → Int32 → Int32 → Int32 → Option Int32) (w : GW) (x1 : Int32) (x2 : Int32) (x3 : Int32) (x5 : Int32) : Option Int32 := (f_X8_knownWord_63 k8 w x1 x2 (x3 + (1 : Int32)) (x5 + (1 : Int32)) x5)
def b_X8_knownWord_8 (k8 : Int32 → Int32 → Int32 → Int32 → Int32 → Option Int32) (w : GW) (x1 : Int32) (x2 : Int32) (x3 : Int32) (x4 : Int32) (x5 : Int32) : Option Int32 := (if (140 : Int32) ≤ x5 then (some (-1 : Int32)) else (if gin x5 140 then (if (txW.getD x5.toNatClampNeg 0) = (32 : Int32) then (if (x5 - x4) = (x2 - x1) then ((F_X8_isWritten w x1 x2 x4).bind fun q5 => (if q5 = 0 then (f_X8_knownWord_54 k8 w x1 x2 x3 x5) else (some x3))) else (f_X8_knownWord_54 k8 w x1 x2 x3 x5)) else (f_X8_knownWord_63 k8 w x1 x2 x3 x4 x5)) else none))
def f_X8_knownWord_8 (w : GW) : Nat → Int32 → Int32 → Int32 → Int32 → Int32 → Option Int32
  | 0, _, _, _, _, _ => none
  | n + 1, x1, x2, x3, x4, x5 => b_X8_knownWord_8 (f_X8_knownWord_8 w n) w x1 x2 x3 x4 x5
def F_X8_knownWord (w : GW) (x1 : Int32) (x2 : Int32) : Option Int32 := (f_X8_knownWord_8 w FU x1 x2 (0 : Int32) (0 : Int32) (0 : Int32))
def f_X8_scanWord_84 (x1 : Int32) (x2 : Int32) (x3 : Int64) (s0 : Int32) (w : GW) : Option (Int32 × GW) := ((F_X8_addToken s0 x1 x3 w).bind fun q9 => (some (x2, q9)))
def f_X8_scanWord_44 (x1 : Int32) (x2 : Int32) (x3 : Int64) (w : GW) : Option (Int32 × GW) := ((F_X8_knownWord w x1 x2).bind fun q5 => (if q5 = (-1 : Int32) then (if (8 : Int32) < (x2 - x1) then (f_X8_scanWord_84 x1 x2 x3 (5 : Int32) w) else (f_X8_scanWord_84 x1 x2 x3 (2 : Int32) w)) else ((F_X8_addToken (1 : Int32) x1 q5.toInt64 w).bind fun q8 => (some (x2, q8)))))
def b_X8_scanWord_4 (k4 : Int32 → Int32 → Int64 → GW → Option (Int32 × GW)) (x1 : Int32) (x2 : Int32) (x3 : Int64) (w : GW) : Option (Int32 × GW) := (if (w.1 0 6) ≤ x2 then (f_X8_scanWord_44 x1 x2 x3 w) else ((F_X8_isLetter w x2).bind fun q2 => (if q2 = 0 then (f_X8_scanWord_44 x1 x2 x3 w) else ((F_X8_byteAt w x2).bind fun q4 => (k4 x1 (x2 + (1 : Int32)) ((x3 * (32 : Int64)) + ((q4 - (97 : Int32)) + (1 : Int32)).toInt64) w)))))
def f_X8_scanWord_4 : Nat → Int32 → Int32 → Int64 → GW → Option (Int32 × GW)
  | 0, _, _, _, _ => none
  | n + 1, x1, x2, x3, w => b_X8_scanWord_4 (f_X8_scanWord_4 n) x1 x2 x3 w
def F_X8_scanWord (x1 : Int32) (w : GW) : Option (Int32 × GW) := (f_X8_scanWord_4 FU x1 x1 (0 : Int64) w)
def F_X8_isDigit (w : GW) (x1 : Int32) : Option Int32 := ((F_X8_byteAt w x1).bind fun q1 => (if q1 < (48 : Int32) then (some (0 : Int32)) else ((F_X8_byteAt w x1).bind fun q3 => (if (57 : Int32) < q3 then (some (0 : Int32)) else (some (1 : Int32))))))
def f_X8_scanNumber_56 (x1 : Int32) (x2 : Int32) (x3 : Int64) (s0 : Int32) (w : GW) : Option (Int32 × GW) := ((F_X8_addToken s0 x1 x3 w).bind fun q6 => (some (x2, q6)))
def f_X8_scanNumber_42 (x1 : Int32) (x2 : Int32) (x3 : Int64) (w : GW) : Option (Int32 × GW) := (if (4 : Int32) < (x2 - x1) then (f_X8_scanNumber_56 x1 x2 x3 (6 : Int32) w) else (f_X8_scanNumber_56 x1 x2 x3 (3 : Int32) w))
def b_X8_scanNumber_4 (k4 : Int32 → Int32 → Int64 → GW → Option (Int32 × GW)) (x1 : Int32) (x2 : Int32) (x3 : Int64) (w : GW) : Option (Int32 × GW) := (if (w.1 0 6) ≤ x2 then (f_X8_scanNumber_42 x1 x2 x3 w) else ((F_X8_isDigit w x2).bind fun q2 => (if q2 = 0 then (f_X8_scanNumber_42 x1 x2 x3 w) else ((F_X8_byteAt w x2).bind fun q4 => (k4 x1 (x2 + (1 : Int32)) ((x3 * (10 : Int64)) + (q4 - (48 : Int32)).toInt64) w)))))
def f_X8_scanNumber_4 : Nat → Int32 → Int32 → Int64 → GW → Option (Int32 × GW)
  | 0, _, _, _, _ => none
  | n + 1, x1, x2, x3, w => b_X8_scanNumber_4 (f_X8_scanNumber_4 n) x1 x2 x3 w
def F_X8_scanNumber (x1 : Int32) (w : GW) : Option (Int32 × GW) := (f_X8_scanNumber_4 FU x1 x1 (0 : Int64) w)
def F_X8_isSignAt (w : GW) (x1 : Int32) : Option Int32 := ((F_X8_byteAt w x1).bind fun q1 => (if q1 = (59 : Int32) then (some (1 : Int32)) else (if q1 = (60 : Int32) then (some (1 : Int32)) else (if q1 = (62 : Int32) then (some (1 : Int32)) else (if q1 = (61 : Int32) then (some (1 : Int32)) else (some (0 : Int32)))))))
def f_X8_scanToken_87 (x2 : Int32) (s0 : Int32) (w : GW) : Option (Int32 × GW) := ((F_X8_byteAt w x2).bind fun q14 => ((F_X8_addToken s0 x2 q14.toInt64 w).bind fun q15 => (some ((x2 + (1 : Int32)), q15))))
def f_X8_scanToken_24 (x2 : Int32) (w : GW) : Option (Int32 × GW) := (if x2 < (w.1 0 6) then ((F_X8_isLetter w x2).bind fun q5 => (if q5 = 0 then ((F_X8_isDigit w x2).bind fun q7 => (if q7 = 0 then ((F_X8_isSignAt w x2).bind fun q9 => (if q9 = 0 then (f_X8_scanToken_87 x2 (6 : Int32) w) else (f_X8_scanToken_87 x2 (4 : Int32) w))) else ((F_X8_scanNumber x2 w).bind fun q11 => (some (q11.1, q11.2))))) else ((F_X8_scanWord x2 w).bind fun q12 => (some (q12.1, q12.2))))) else ((F_X8_addToken (0 : Int32) (w.1 0 6) (0 : Int64) w).bind fun q13 => (some (x2, q13))))
def b_X8_scanToken_2 (k2 : Int32 → GW → Option (Int32 × GW)) (x2 : Int32) (w : GW) : Option (Int32 × GW) := (if (w.1 0 6) ≤ x2 then (f_X8_scanToken_24 x2 w) else ((F_X8_isBlank w x2).bind fun q2 => (if q2 = 0 then (f_X8_scanToken_24 x2 w) else (k2 (x2 + (1 : Int32)) w))))
def f_X8_scanToken_2 : Nat → Int32 → GW → Option (Int32 × GW)
  | 0, _, _ => none
  | n + 1, x2, w => b_X8_scanToken_2 (f_X8_scanToken_2 n) x2 w
def F_X8_scanToken (x1 : Int32) (w : GW) : Option (Int32 × GW) := (f_X8_scanToken_2 FU x1 w)
def f_X8_begin_73 (w : GW) : Option GW := ((F_X8_advance (gI w 0 11 (0 : Int32))).bind fun q5 => (some q5))
def b_X8_begin_47 (k47 : Int32 → Int32 → GW → Option GW) (x2 : Int32) (x3 : Int32) (w : GW) : Option GW := (if (901 : Int32) ≤ x3 then (f_X8_begin_73 w) else (if (w.1 0 12) = 0 then ((F_X8_scanToken x2 w).bind fun q4 => (k47 q4.1 (x3 + (1 : Int32)) q4.2)) else (f_X8_begin_73 w)))
def f_X8_begin_47 : Nat → Int32 → Int32 → GW → Option GW
  | 0, _, _, _ => none
  | n + 1, x2, x3, w => b_X8_begin_47 (f_X8_begin_47 n) x2 x3 w
def f_X8_begin_20 (s0 : Int32) (w : GW) : Option GW := (f_X8_begin_47 FU (0 : Int32) (0 : Int32) (gI (gI (gI (gI (gI w 0 6 s0) 0 10 (0 : Int32)) 0 4 (0 : Int32)) 0 5 (-1 : Int32)) 0 12 (0 : Int32)))
def F_X8_begin (x1 : Int32) (w : GW) : Option GW := (if (900 : Int32) ≤ x1 then (f_X8_begin_20 (900 : Int32) (gI w 0 0 (0 : Int32))) else (f_X8_begin_20 x1 (gI w 0 0 (0 : Int32))))
set_option maxHeartbeats 4000000 in
set_option maxRecDepth 100000 in
theorem c_X8_fail (l : Launch) (D : va_G) (cA ad : Nat → Nat) (hin : gInj ad shT.length) (w : GW) (x1 : Int32) (q : (Int32 × GW)) (hf : F_X8_fail x1 w = some q) : gMet l yX8_fail cX8_fail 2 (some .boolean) 1 120 D cA ad shT [.ref 0, .int x1] w (some (.int q.1)) q.2 := by
  refine g_entry (by decide) hin (Nat.le_of_ble_eq_true rfl) ?_
  intro p e s m args below meth c C
  unfold F_X8_fail at hf
  show gW p l e (gRm 1 120) s m args below meth c D cA ad shT 2 0 0 (gQ below D cA ad shT (some (.int q.1)) q.2 args s) 0 [(0, .ref 0), (1, .int x1)] [] w
  refine g_aload_n C (gdec dt_X8_fail 0 rfl) (i := 0) rfl rfl ?_
  refine g_iload_n C (gdec dt_X8_fail 1 rfl) (i := 1) rfl rfl ?_
  refine g_puti C kf_X8_25 rfl rfl (gdec dt_X8_fail 2 rfl) ?_
  refine g_aload_n C (gdec dt_X8_fail 3 rfl) (i := 0) rfl rfl ?_
  refine g_aload_n C (gdec dt_X8_fail 4 rfl) (i := 0) rfl rfl ?_
  refine g_getiv C kf_X8_34 rfl rfl (gdec dt_X8_fail 5 rfl) (v := (w.1 0 7)) rfl ?_
  refine g_puti C kf_X8_28 rfl rfl (gdec dt_X8_fail 6 rfl) ?_
  refine g_iconst C (gdec dt_X8_fail 7 rfl) ic_0 ?_
  cases hf
  exact g_zret C (Or.inl rfl) rfl (gdec dt_X8_fail 8 rfl)
set_option maxHeartbeats 4000000 in
set_option maxRecDepth 100000 in
theorem L_X8_advance_101 {p : Program} {l : Launch} {e : Env} {s : State} {m : MethodId} {args : Array Value} {below : List Frame} {meth : Method} {c : Code} {D : va_G} {cA ad : Nat → Nat} {q : GW} (C : gC p c cX8_advance meth m s args 1 none RX8 D cA ad shT) (s0 : Int32) (w : GW) (hf : f_X8_advance_101 s0 w = some q) : gW p l e (gRm 1 120) s m args below meth c D cA ad shT 1 0 0 (gQ below D cA ad shT none q args s) 101 [(0, .ref 0)] [.int s0, .ref 0] w := by
  unfold f_X8_advance_101 at hf
  refine g_puti C kf_X8_18 rfl rfl (gdec dt_X8_advance 51 rfl) ?_
  refine g_aload_n C (gdec dt_X8_advance 52 rfl) (i := 0) rfl rfl ?_
  refine g_dup C (gdec dt_X8_advance 53 rfl) rfl ?_
  refine g_getiv C kf_X8_46 rfl rfl (gdec dt_X8_advance 54 rfl) (v := (w.1 0 11)) rfl ?_
  refine g_iconst C (gdec dt_X8_advance 55 rfl) ic_1 ?_
  refine g_iadd C (gdec dt_X8_advance 56 rfl) ?_
  refine g_puti C kf_X8_46 rfl rfl (gdec dt_X8_advance 57 rfl) ?_
  cases hf
  exact g_vret C rfl (gdec dt_X8_advance 58 rfl)
set_option maxHeartbeats 4000000 in
set_option maxRecDepth 100000 in
theorem c_X8_advance (l : Launch) (D : va_G) (cA ad : Nat → Nat) (hin : gInj ad shT.length) (w : GW) (q : GW) (hf : F_X8_advance w = some q) : gMet l yX8_advance cX8_advance 1 none 1 120 D cA ad shT [.ref 0] w none q := by
  refine g_entry (by decide) hin (Nat.le_of_ble_eq_true rfl) ?_
  intro p e s m args below meth c C
  unfold F_X8_advance at hf
  show gW p l e (gRm 1 120) s m args below meth c D cA ad shT 1 0 0 (gQ below D cA ad shT none q args s) 0 [(0, .ref 0)] [] w
  refine g_aload_n C (gdec dt_X8_advance 0 rfl) (i := 0) rfl rfl ?_
  refine g_aload_n C (gdec dt_X8_advance 1 rfl) (i := 0) rfl rfl ?_
  refine g_getl C kf_X8_37 rfl rfl (gdec dt_X8_advance 2 rfl) ?_
  refine g_putl C kf_X8_21 rfl rfl (gdec dt_X8_advance 3 rfl) ?_
  refine g_aload_n C (gdec dt_X8_advance 4 rfl) (i := 0) rfl rfl ?_
  refine g_aload_n C (gdec dt_X8_advance 5 rfl) (i := 0) rfl rfl ?_
  refine g_getiv C kf_X8_34 rfl rfl (gdec dt_X8_advance 6 rfl) (v := (w.1 0 7)) rfl ?_
  refine g_puti C kf_X8_40 rfl rfl (gdec dt_X8_advance 7 rfl) ?_
  refine g_aload_n C (gdec dt_X8_advance 8 rfl) (i := 0) rfl rfl ?_
  refine g_getiv C kf_X8_46 rfl rfl (gdec dt_X8_advance 9 rfl) (v := (w.1 0 11)) rfl ?_
  refine g_if_lt C (tgt := 114) (gdec dt_X8_advance 10 rfl) (by decide) (fun hc1 => ?_) (fun hc1 => ?_)
  · have hf := (if_pos hc1).symm.trans hf
    cases hf
    exact g_vret C rfl (gdec dt_X8_advance 58 rfl)
  · have hf := (if_neg hc1).symm.trans hf
    refine g_aload_n C (gdec dt_X8_advance 11 rfl) (i := 0) rfl rfl ?_
    refine g_getiv C kf_X8_46 rfl rfl (gdec dt_X8_advance 12 rfl) (v := (w.1 0 11)) rfl ?_
    refine g_aload_n C (gdec dt_X8_advance 13 rfl) (i := 0) rfl rfl ?_
    refine g_getiv C kf_X8_43 rfl rfl (gdec dt_X8_advance 14 rfl) (v := (w.1 0 10)) rfl ?_
    refine g_icmp_ge C (tgt := 114) (gdec dt_X8_advance 15 rfl) (by decide) (fun hc2 => ?_) (fun hc2 => ?_)
    · have hf := (if_pos hc2).symm.trans hf
      cases hf
      exact g_vret C rfl (gdec dt_X8_advance 58 rfl)
    · have hf := (if_neg hc2).symm.trans hf
      refine g_aload_n C (gdec dt_X8_advance 16 rfl) (i := 0) rfl rfl ?_
      refine g_getiv C kf_X8_46 rfl rfl (gdec dt_X8_advance 17 rfl) (v := (w.1 0 11)) rfl ?_
      refine g_sipush C (gdec dt_X8_advance 18 rfl) sc_901 ?_
      refine g_icmp_ge C (tgt := 114) (gdec dt_X8_advance 19 rfl) (by decide) (fun hc3 => ?_) (fun hc3 => ?_)
      · have hf := (if_pos hc3).symm.trans hf
        cases hf
        exact g_vret C rfl (gdec dt_X8_advance 58 rfl)
      · have hf := (if_neg hc3).symm.trans hf
        refine g_aload_n C (gdec dt_X8_advance 20 rfl) (i := 0) rfl rfl ?_
        refine g_aload_n C (gdec dt_X8_advance 21 rfl) (i := 0) rfl rfl ?_
        refine g_getr C (j := 2) kf_X8_57 rfl rfl (gdec dt_X8_advance 22 rfl) ?_
        refine g_aload_n C (gdec dt_X8_advance 23 rfl) (i := 0) rfl rfl ?_
        refine g_getiv C kf_X8_46 rfl rfl (gdec dt_X8_advance 24 rfl) (v := (w.1 0 11)) rfl ?_
        obtain ⟨hg4, hf⟩ := gif hf
        refine g_iald C (i := 2) rfl hg4 rfl (gdec dt_X8_advance 25 rfl) ?_
        refine g_puti C kf_X8_15 rfl rfl (gdec dt_X8_advance 26 rfl) ?_
        refine g_aload_n C (gdec dt_X8_advance 27 rfl) (i := 0) rfl rfl ?_
        refine g_aload_n C (gdec dt_X8_advance 28 rfl) (i := 0) rfl rfl ?_
        refine g_getr C (j := 3) kf_X8_61 rfl rfl (gdec dt_X8_advance 29 rfl) ?_
        refine g_aload_n C (gdec dt_X8_advance 30 rfl) (i := 0) rfl rfl ?_
        refine g_getiv C kf_X8_46 rfl rfl (gdec dt_X8_advance 31 rfl) (v := (w.1 0 11)) rfl ?_
        refine g_iald C (i := 3) rfl hg4 rfl (gdec dt_X8_advance 32 rfl) ?_
        refine g_puti C kf_X8_34 rfl rfl (gdec dt_X8_advance 33 rfl) ?_
        refine g_aload_n C (gdec dt_X8_advance 34 rfl) (i := 0) rfl rfl ?_
        refine g_aload_n C (gdec dt_X8_advance 35 rfl) (i := 0) rfl rfl ?_
        refine g_getr C (j := 4) kf_X8_64 rfl rfl (gdec dt_X8_advance 36 rfl) ?_
        refine g_aload_n C (gdec dt_X8_advance 37 rfl) (i := 0) rfl rfl ?_
        refine g_getiv C kf_X8_46 rfl rfl (gdec dt_X8_advance 38 rfl) (v := (w.1 0 11)) rfl ?_
        refine g_lald C (i := 4) rfl hg4 rfl (gdec dt_X8_advance 39 rfl) ?_
        refine g_putl C kf_X8_37 rfl rfl (gdec dt_X8_advance 40 rfl) ?_
        refine g_aload_n C (gdec dt_X8_advance 41 rfl) (i := 0) rfl rfl ?_
        refine g_aload_n C (gdec dt_X8_advance 42 rfl) (i := 0) rfl rfl ?_
        refine g_getiv C kf_X8_15 rfl rfl (gdec dt_X8_advance 43 rfl) (v := (w.1 2 (w.1 0 11).toNatClampNeg)) rfl ?_
        refine g_iconst C (gdec dt_X8_advance 44 rfl) ic_1 ?_
        refine g_icmp_ne C (tgt := 100) (gdec dt_X8_advance 45 rfl) (by decide) (fun hc5 => ?_) (fun hc5 => ?_)
        · have hf := (if_neg hc5).symm.trans hf
          refine g_iconst C (gdec dt_X8_advance 50 rfl) ic_m1 ?_
          refine g_sub [0] (lo2 := [(0, .ref 0)]) rfl ?_
          exact L_X8_advance_101 C (-1 : Int32) (gL (gI (gI (gI (gL w 0 3 (w.2 0 8)) 0 9 (w.1 0 7)) 0 1 (w.1 2 (w.1 0 11).toNatClampNeg)) 0 7 (w.1 3 (w.1 0 11).toNatClampNeg)) 0 8 (w.2 4 (w.1 0 11).toNatClampNeg)) hf
        · have hf := (if_pos hc5).symm.trans hf
          refine g_aload_n C (gdec dt_X8_advance 46 rfl) (i := 0) rfl rfl ?_
          refine g_getlv C kf_X8_37 rfl rfl (gdec dt_X8_advance 47 rfl) (v := (w.2 4 (w.1 0 11).toNatClampNeg)) rfl ?_
          refine g_l2i C (gdec dt_X8_advance 48 rfl) ?_
          refine g_goto C (tgt := 101) (gdec dt_X8_advance 49 rfl) (by decide) ?_
          refine g_sub [0] (lo2 := [(0, .ref 0)]) rfl ?_
          exact L_X8_advance_101 C (w.2 4 (w.1 0 11).toNatClampNeg).toInt32 (gL (gI (gI (gI (gL w 0 3 (w.2 0 8)) 0 9 (w.1 0 7)) 0 1 (w.1 2 (w.1 0 11).toNatClampNeg)) 0 7 (w.1 3 (w.1 0 11).toNatClampNeg)) 0 8 (w.2 4 (w.1 0 11).toNatClampNeg)) hf
set_option maxHeartbeats 4000000 in
set_option maxRecDepth 100000 in
theorem L_X8_failHere_15 {p : Program} {l : Launch} {e : Env} {s : State} {m : MethodId} {args : Array Value} {below : List Frame} {meth : Method} {c : Code} {D : va_G} {cA ad : Nat → Nat} {q : (Int32 × GW)} (C : gC p c cX8_failHere meth m s args 1 (some .boolean) RX8 D cA ad shT) (s0 : Int32) (w : GW) (hf : f_X8_failHere_15 s0 w = some q) : gW p l e (gRm 1 120) s m args below meth c D cA ad shT 1 0 0 (gQ below D cA ad shT (some (.int q.1)) q.2 args s) 15 [(0, .ref 0)] [.int s0, .ref 0] w := by
  unfold f_X8_failHere_15 at hf
  refine g_puti C kf_X8_25 rfl rfl (gdec dt_X8_failHere 8 rfl) ?_
  refine g_aload_n C (gdec dt_X8_failHere 9 rfl) (i := 0) rfl rfl ?_
  refine g_aload_n C (gdec dt_X8_failHere 10 rfl) (i := 0) rfl rfl ?_
  refine g_getiv C kf_X8_34 rfl rfl (gdec dt_X8_failHere 11 rfl) (v := (w.1 0 7)) rfl ?_
  refine g_puti C kf_X8_28 rfl rfl (gdec dt_X8_failHere 12 rfl) ?_
  refine g_iconst C (gdec dt_X8_failHere 13 rfl) ic_0 ?_
  cases hf
  exact g_zret C (Or.inl rfl) rfl (gdec dt_X8_failHere 14 rfl)
set_option maxHeartbeats 4000000 in
set_option maxRecDepth 100000 in
theorem c_X8_failHere (l : Launch) (D : va_G) (cA ad : Nat → Nat) (hin : gInj ad shT.length) (w : GW) (q : (Int32 × GW)) (hf : F_X8_failHere w = some q) : gMet l yX8_failHere cX8_failHere 1 (some .boolean) 1 120 D cA ad shT [.ref 0] w (some (.int q.1)) q.2 := by
  refine g_entry (by decide) hin (Nat.le_of_ble_eq_true rfl) ?_
  intro p e s m args below meth c C
  unfold F_X8_failHere at hf
  show gW p l e (gRm 1 120) s m args below meth c D cA ad shT 1 0 0 (gQ below D cA ad shT (some (.int q.1)) q.2 args s) 0 [(0, .ref 0)] [] w
  refine g_aload_n C (gdec dt_X8_failHere 0 rfl) (i := 0) rfl rfl ?_
  refine g_aload_n C (gdec dt_X8_failHere 1 rfl) (i := 0) rfl rfl ?_
  refine g_geti C kf_X8_15 rfl rfl (gdec dt_X8_failHere 2 rfl) ?_
  refine g_bipush C (gdec dt_X8_failHere 3 rfl) bc_6 ?_
  refine g_icmp_ne C (tgt := 14) (gdec dt_X8_failHere 4 rfl) (by decide) (fun hc1 => ?_) (fun hc1 => ?_)
  · have hf := (if_neg hc1).symm.trans hf
    refine g_iconst C (gdec dt_X8_failHere 7 rfl) ic_2 ?_
    refine g_sub [0] (lo2 := [(0, .ref 0)]) rfl ?_
    exact L_X8_failHere_15 C (2 : Int32) w hf
  · have hf := (if_pos hc1).symm.trans hf
    refine g_iconst C (gdec dt_X8_failHere 5 rfl) ic_1 ?_
    refine g_goto C (tgt := 15) (gdec dt_X8_failHere 6 rfl) (by decide) ?_
    refine g_sub [0] (lo2 := [(0, .ref 0)]) rfl ?_
    exact L_X8_failHere_15 C (1 : Int32) w hf
set_option maxHeartbeats 4000000 in
set_option maxRecDepth 100000 in
theorem L_X8_passNumber_33 {p : Program} {l : Launch} {e : Env} {s : State} {m : MethodId} {args : Array Value} {below : List Frame} {meth : Method} {c : Code} {D : va_G} {cA ad : Nat → Nat} {q : (Int32 × GW)} (C : gC p c cX8_passNumber meth m s args 3 (some .boolean) RX8 D cA ad shT) (w : GW) (hf : f_X8_passNumber_33 w = some q) : gW p l e (gRm 2 141) s m args below meth c D cA ad shT 3 0 0 (gQ below D cA ad shT (some (.int q.1)) q.2 args s) 33 [(0, .ref 0)] [] w := by
  unfold f_X8_passNumber_33 at hf
  refine g_aload_n C (gdec dt_X8_passNumber 19 rfl) (i := 0) rfl rfl ?_
  refine g_iconst C (gdec dt_X8_passNumber 20 rfl) ic_4 ?_
  obtain ⟨q7, hq7, hf⟩ := Option.bind_eq_some_iff.mp hf
  refine g_invV [.int (4 : Int32)] [] C (c_X8_fail l D cA _ (gCi C) w (4 : Int32) q7 hq7) kT_X8_fail kl_X8_128 kim_X8_fail kse_X8_fail rfl rfl (i := 0) rfl rfl ⟨by decide, by decide⟩ gk0 (Nat.le_of_ble_eq_true rfl) (gdec dt_X8_passNumber 21 rfl) rfl (st2 := [.int q7.1]) rfl ?_
  obtain ⟨hb8, hf⟩ := gif hf
  cases hf
  exact g_zret C hb8 rfl (gdec dt_X8_passNumber 22 rfl)
set_option maxHeartbeats 4000000 in
set_option maxRecDepth 100000 in
theorem c_X8_passNumber (l : Launch) (D : va_G) (cA ad : Nat → Nat) (hin : gInj ad shT.length) (w : GW) (x1 : Int32) (x2 : Int32) (q : (Int32 × GW)) (hf : F_X8_passNumber x1 x2 w = some q) : gMet l yX8_passNumber cX8_passNumber 3 (some .boolean) 2 141 D cA ad shT [.ref 0, .int x1, .int x2] w (some (.int q.1)) q.2 := by
  refine g_entry (by decide) hin (Nat.le_of_ble_eq_true rfl) ?_
  intro p e s m args below meth c C
  unfold F_X8_passNumber at hf
  show gW p l e (gRm 2 141) s m args below meth c D cA ad shT 3 0 0 (gQ below D cA ad shT (some (.int q.1)) q.2 args s) 0 [(0, .ref 0), (1, .int x1), (2, .int x2)] [] w
  refine g_aload_n C (gdec dt_X8_passNumber 0 rfl) (i := 0) rfl rfl ?_
  refine g_geti C kf_X8_15 rfl rfl (gdec dt_X8_passNumber 1 rfl) ?_
  refine g_iconst C (gdec dt_X8_passNumber 2 rfl) ic_3 ?_
  refine g_icmp_eq C (tgt := 13) (gdec dt_X8_passNumber 3 rfl) (by decide) (fun hc1 => ?_) (fun hc1 => ?_)
  · have hf := (if_pos hc1).symm.trans hf
    refine g_aload_n C (gdec dt_X8_passNumber 7 rfl) (i := 0) rfl rfl ?_
    refine g_getl C kf_X8_37 rfl rfl (gdec dt_X8_passNumber 8 rfl) ?_
    refine g_iload_n C (gdec dt_X8_passNumber 9 rfl) (i := 1) rfl rfl ?_
    refine g_i2l C (gdec dt_X8_passNumber 10 rfl) ?_
    refine g_lcmp C (gdec dt_X8_passNumber 11 rfl) ?_
    refine g_if_lt C (tgt := 33) (gdec dt_X8_passNumber 12 rfl) (by decide) (fun hc2 => ?_) (fun hc2 => ?_)
    · have hf := (if_pos hc2).symm.trans hf
      refine g_sub [0] (lo2 := [(0, .ref 0)]) rfl ?_
      exact L_X8_passNumber_33 C w hf
    · have hf := (if_neg hc2).symm.trans hf
      refine g_aload_n C (gdec dt_X8_passNumber 13 rfl) (i := 0) rfl rfl ?_
      refine g_getl C kf_X8_37 rfl rfl (gdec dt_X8_passNumber 14 rfl) ?_
      refine g_iload_n C (gdec dt_X8_passNumber 15 rfl) (i := 2) rfl rfl ?_
      refine g_i2l C (gdec dt_X8_passNumber 16 rfl) ?_
      refine g_lcmp C (gdec dt_X8_passNumber 17 rfl) ?_
      refine g_if_le C (tgt := 39) (gdec dt_X8_passNumber 18 rfl) (by decide) (fun hc3 => ?_) (fun hc3 => ?_)
      · have hf := (if_pos hc3).symm.trans hf
        refine g_aload_n C (gdec dt_X8_passNumber 23 rfl) (i := 0) rfl rfl ?_
        obtain ⟨q4, hq4, hf⟩ := Option.bind_eq_some_iff.mp hf
        refine g_invV [] [] C (c_X8_advance l D cA _ (gCi C) w  q4 hq4) kT_X8_advance kl_X8_72 kim_X8_advance kse_X8_advance rfl rfl (i := 0) rfl rfl ⟨by decide, by decide⟩ gk0 (Nat.le_of_ble_eq_true rfl) (gdec dt_X8_passNumber 24 rfl) rfl (st2 := []) rfl ?_
        refine g_iconst C (gdec dt_X8_passNumber 25 rfl) ic_1 ?_
        cases hf
        exact g_zret C (Or.inr rfl) rfl (gdec dt_X8_passNumber 26 rfl)
      · have hf := (if_neg hc3).symm.trans hf
        refine g_sub [0] (lo2 := [(0, .ref 0)]) rfl ?_
        exact L_X8_passNumber_33 C w hf
  · have hf := (if_neg hc1).symm.trans hf
    refine g_aload_n C (gdec dt_X8_passNumber 4 rfl) (i := 0) rfl rfl ?_
    obtain ⟨q5, hq5, hf⟩ := Option.bind_eq_some_iff.mp hf
    refine g_invV [] [] C (c_X8_failHere l D cA _ (gCi C) w  q5 hq5) kT_X8_failHere kl_X8_124 kim_X8_failHere kse_X8_failHere rfl rfl (i := 0) rfl rfl ⟨by decide, by decide⟩ gk0 (Nat.le_of_ble_eq_true rfl) (gdec dt_X8_passNumber 5 rfl) rfl (st2 := [.int q5.1]) rfl ?_
    obtain ⟨hb6, hf⟩ := gif hf
    cases hf
    exact g_zret C hb6 rfl (gdec dt_X8_passNumber 6 rfl)
set_option maxHeartbeats 4000000 in
set_option maxRecDepth 100000 in
theorem c_X8_passedNumber (l : Launch) (D : va_G) (cA ad : Nat → Nat) (hin : gInj ad shT.length) (w : GW) (q : Int32) (hf : F_X8_passedNumber w = some q) : gMet l yX8_passedNumber cX8_passedNumber 1 (some .int) 1 120 D cA ad shT [.ref 0] w (some (.int q)) w := by
  refine g_entry (by decide) hin (Nat.le_of_ble_eq_true rfl) ?_
  intro p e s m args below meth c C
  unfold F_X8_passedNumber at hf
  show gW p l e (gRm 1 120) s m args below meth c D cA ad shT 1 0 0 (gQ below D cA ad shT (some (.int q)) w args s) 0 [(0, .ref 0)] [] w
  refine g_aload_n C (gdec dt_X8_passedNumber 0 rfl) (i := 0) rfl rfl ?_
  refine g_getl C kf_X8_21 rfl rfl (gdec dt_X8_passedNumber 1 rfl) ?_
  refine g_l2i C (gdec dt_X8_passedNumber 2 rfl) ?_
  cases hf
  exact g_iret C rfl (gdec dt_X8_passedNumber 3 rfl)
set_option maxHeartbeats 4000000 in
set_option maxRecDepth 100000 in
theorem L_X8_passSemicolon_19 {p : Program} {l : Launch} {e : Env} {s : State} {m : MethodId} {args : Array Value} {below : List Frame} {meth : Method} {c : Code} {D : va_G} {cA ad : Nat → Nat} {q : (Int32 × GW)} (C : gC p c cX8_passSemicolon meth m s args 1 (some .boolean) RX8 D cA ad shT) (w : GW) (hf : f_X8_passSemicolon_19 w = some q) : gW p l e (gRm 2 140) s m args below meth c D cA ad shT 1 0 0 (gQ below D cA ad shT (some (.int q.1)) q.2 args s) 19 [(0, .ref 0)] [] w := by
  unfold f_X8_passSemicolon_19 at hf
  refine g_aload_n C (gdec dt_X8_passSemicolon 9 rfl) (i := 0) rfl rfl ?_
  obtain ⟨q4, hq4, hf⟩ := Option.bind_eq_some_iff.mp hf
  refine g_invV [] [] C (c_X8_failHere l D cA _ (gCi C) w  q4 hq4) kT_X8_failHere kl_X8_124 kim_X8_failHere kse_X8_failHere rfl rfl (i := 0) rfl rfl ⟨by decide, by decide⟩ gk0 (Nat.le_of_ble_eq_true rfl) (gdec dt_X8_passSemicolon 10 rfl) rfl (st2 := [.int q4.1]) rfl ?_
  obtain ⟨hb5, hf⟩ := gif hf
  cases hf
  exact g_zret C hb5 rfl (gdec dt_X8_passSemicolon 11 rfl)
set_option maxHeartbeats 4000000 in
set_option maxRecDepth 100000 in
theorem c_X8_passSemicolon (l : Launch) (D : va_G) (cA ad : Nat → Nat) (hin : gInj ad shT.length) (w : GW) (q : (Int32 × GW)) (hf : F_X8_passSemicolon w = some q) : gMet l yX8_passSemicolon cX8_passSemicolon 1 (some .boolean) 2 140 D cA ad shT [.ref 0] w (some (.int q.1)) q.2 := by
  refine g_entry (by decide) hin (Nat.le_of_ble_eq_true rfl) ?_
  intro p e s m args below meth c C
  unfold F_X8_passSemicolon at hf
  show gW p l e (gRm 2 140) s m args below meth c D cA ad shT 1 0 0 (gQ below D cA ad shT (some (.int q.1)) q.2 args s) 0 [(0, .ref 0)] [] w
  refine g_aload_n C (gdec dt_X8_passSemicolon 0 rfl) (i := 0) rfl rfl ?_
  refine g_geti C kf_X8_15 rfl rfl (gdec dt_X8_passSemicolon 1 rfl) ?_
  refine g_iconst C (gdec dt_X8_passSemicolon 2 rfl) ic_4 ?_
  refine g_icmp_ne C (tgt := 19) (gdec dt_X8_passSemicolon 3 rfl) (by decide) (fun hc1 => ?_) (fun hc1 => ?_)
  · have hf := (if_neg hc1).symm.trans hf
    refine g_sub [0] (lo2 := [(0, .ref 0)]) rfl ?_
    exact L_X8_passSemicolon_19 C w hf
  · have hf := (if_pos hc1).symm.trans hf
    refine g_aload_n C (gdec dt_X8_passSemicolon 4 rfl) (i := 0) rfl rfl ?_
    refine g_getl C kf_X8_37 rfl rfl (gdec dt_X8_passSemicolon 5 rfl) ?_
    refine g_ldc2 C kl2_X8_131 (gdec dt_X8_passSemicolon 6 rfl) ?_
    refine g_lcmp C (gdec dt_X8_passSemicolon 7 rfl) ?_
    refine g_if_eq C (tgt := 24) (gdec dt_X8_passSemicolon 8 rfl) (by decide) (fun hc2 => ?_) (fun hc2 => ?_)
    · have hf := (if_pos hc2).symm.trans hf
      refine g_aload_n C (gdec dt_X8_passSemicolon 12 rfl) (i := 0) rfl rfl ?_
      obtain ⟨q3, hq3, hf⟩ := Option.bind_eq_some_iff.mp hf
      refine g_invV [] [] C (c_X8_advance l D cA _ (gCi C) w  q3 hq3) kT_X8_advance kl_X8_72 kim_X8_advance kse_X8_advance rfl rfl (i := 0) rfl rfl ⟨by decide, by decide⟩ gk0 (Nat.le_of_ble_eq_true rfl) (gdec dt_X8_passSemicolon 13 rfl) rfl (st2 := []) rfl ?_
      refine g_iconst C (gdec dt_X8_passSemicolon 14 rfl) ic_1 ?_
      cases hf
      exact g_zret C (Or.inr rfl) rfl (gdec dt_X8_passSemicolon 15 rfl)
    · have hf := (if_neg hc2).symm.trans hf
      refine g_sub [0] (lo2 := [(0, .ref 0)]) rfl ?_
      exact L_X8_passSemicolon_19 C w hf
set_option maxHeartbeats 4000000 in
set_option maxRecDepth 100000 in
theorem c_X8_passWord (l : Launch) (D : va_G) (cA ad : Nat → Nat) (hin : gInj ad shT.length) (w : GW) (x1 : Int32) (q : (Int32 × GW)) (hf : F_X8_passWord x1 w = some q) : gMet l yX8_passWord cX8_passWord 2 (some .boolean) 2 140 D cA ad shT [.ref 0, .int x1] w (some (.int q.1)) q.2 := by
  refine g_entry (by decide) hin (Nat.le_of_ble_eq_true rfl) ?_
  intro p e s m args below meth c C
  unfold F_X8_passWord at hf
  show gW p l e (gRm 2 140) s m args below meth c D cA ad shT 2 0 0 (gQ below D cA ad shT (some (.int q.1)) q.2 args s) 0 [(0, .ref 0), (1, .int x1)] [] w
  refine g_aload_n C (gdec dt_X8_passWord 0 rfl) (i := 0) rfl rfl ?_
  refine g_geti C kf_X8_18 rfl rfl (gdec dt_X8_passWord 1 rfl) ?_
  refine g_iload_n C (gdec dt_X8_passWord 2 rfl) (i := 1) rfl rfl ?_
  refine g_icmp_eq C (tgt := 13) (gdec dt_X8_passWord 3 rfl) (by decide) (fun hc1 => ?_) (fun hc1 => ?_)
  · have hf := (if_pos hc1).symm.trans hf
    refine g_aload_n C (gdec dt_X8_passWord 7 rfl) (i := 0) rfl rfl ?_
    obtain ⟨q2, hq2, hf⟩ := Option.bind_eq_some_iff.mp hf
    refine g_invV [] [] C (c_X8_advance l D cA _ (gCi C) w  q2 hq2) kT_X8_advance kl_X8_72 kim_X8_advance kse_X8_advance rfl rfl (i := 0) rfl rfl ⟨by decide, by decide⟩ gk0 (Nat.le_of_ble_eq_true rfl) (gdec dt_X8_passWord 8 rfl) rfl (st2 := []) rfl ?_
    refine g_iconst C (gdec dt_X8_passWord 9 rfl) ic_1 ?_
    cases hf
    exact g_zret C (Or.inr rfl) rfl (gdec dt_X8_passWord 10 rfl)
  · have hf := (if_neg hc1).symm.trans hf
    refine g_aload_n C (gdec dt_X8_passWord 4 rfl) (i := 0) rfl rfl ?_
    obtain ⟨q3, hq3, hf⟩ := Option.bind_eq_some_iff.mp hf
    refine g_invV [] [] C (c_X8_failHere l D cA _ (gCi C) w  q3 hq3) kT_X8_failHere kl_X8_124 kim_X8_failHere kse_X8_failHere rfl rfl (i := 0) rfl rfl ⟨by decide, by decide⟩ gk0 (Nat.le_of_ble_eq_true rfl) (gdec dt_X8_passWord 5 rfl) rfl (st2 := [.int q3.1]) rfl ?_
    obtain ⟨hb4, hf⟩ := gif hf
    cases hf
    exact g_zret C hb4 rfl (gdec dt_X8_passWord 6 rfl)
set_option maxHeartbeats 4000000 in
set_option maxRecDepth 100000 in
theorem c_X8_passName (l : Launch) (D : va_G) (cA ad : Nat → Nat) (hin : gInj ad shT.length) (w : GW) (q : (Int32 × GW)) (hf : F_X8_passName w = some q) : gMet l yX8_passName cX8_passName 1 (some .boolean) 2 140 D cA ad shT [.ref 0] w (some (.int q.1)) q.2 := by
  refine g_entry (by decide) hin (Nat.le_of_ble_eq_true rfl) ?_
  intro p e s m args below meth c C
  unfold F_X8_passName at hf
  show gW p l e (gRm 2 140) s m args below meth c D cA ad shT 1 0 0 (gQ below D cA ad shT (some (.int q.1)) q.2 args s) 0 [(0, .ref 0)] [] w
  refine g_aload_n C (gdec dt_X8_passName 0 rfl) (i := 0) rfl rfl ?_
  refine g_geti C kf_X8_15 rfl rfl (gdec dt_X8_passName 1 rfl) ?_
  refine g_iconst C (gdec dt_X8_passName 2 rfl) ic_2 ?_
  refine g_icmp_eq C (tgt := 13) (gdec dt_X8_passName 3 rfl) (by decide) (fun hc1 => ?_) (fun hc1 => ?_)
  · have hf := (if_pos hc1).symm.trans hf
    refine g_aload_n C (gdec dt_X8_passName 7 rfl) (i := 0) rfl rfl ?_
    obtain ⟨q2, hq2, hf⟩ := Option.bind_eq_some_iff.mp hf
    refine g_invV [] [] C (c_X8_advance l D cA _ (gCi C) w  q2 hq2) kT_X8_advance kl_X8_72 kim_X8_advance kse_X8_advance rfl rfl (i := 0) rfl rfl ⟨by decide, by decide⟩ gk0 (Nat.le_of_ble_eq_true rfl) (gdec dt_X8_passName 8 rfl) rfl (st2 := []) rfl ?_
    refine g_iconst C (gdec dt_X8_passName 9 rfl) ic_1 ?_
    cases hf
    exact g_zret C (Or.inr rfl) rfl (gdec dt_X8_passName 10 rfl)
  · have hf := (if_neg hc1).symm.trans hf
    refine g_aload_n C (gdec dt_X8_passName 4 rfl) (i := 0) rfl rfl ?_
    obtain ⟨q3, hq3, hf⟩ := Option.bind_eq_some_iff.mp hf
    refine g_invV [] [] C (c_X8_failHere l D cA _ (gCi C) w  q3 hq3) kT_X8_failHere kl_X8_124 kim_X8_failHere kse_X8_failHere rfl rfl (i := 0) rfl rfl ⟨by decide, by decide⟩ gk0 (Nat.le_of_ble_eq_true rfl) (gdec dt_X8_passName 5 rfl) rfl (st2 := [.int q3.1]) rfl ?_
    obtain ⟨hb4, hf⟩ := gif hf
    cases hf
    exact g_zret C hb4 rfl (gdec dt_X8_passName 6 rfl)
set_option maxHeartbeats 4000000 in
set_option maxRecDepth 100000 in
theorem c_X8_failPassed (l : Launch) (D : va_G) (cA ad : Nat → Nat) (hin : gInj ad shT.length) (w : GW) (x1 : Int32) (q : (Int32 × GW)) (hf : F_X8_failPassed x1 w = some q) : gMet l yX8_failPassed cX8_failPassed 2 (some .boolean) 1 120 D cA ad shT [.ref 0, .int x1] w (some (.int q.1)) q.2 := by
  refine g_entry (by decide) hin (Nat.le_of_ble_eq_true rfl) ?_
  intro p e s m args below meth c C
  unfold F_X8_failPassed at hf
  show gW p l e (gRm 1 120) s m args below meth c D cA ad shT 2 0 0 (gQ below D cA ad shT (some (.int q.1)) q.2 args s) 0 [(0, .ref 0), (1, .int x1)] [] w
  refine g_aload_n C (gdec dt_X8_failPassed 0 rfl) (i := 0) rfl rfl ?_
  refine g_iload_n C (gdec dt_X8_failPassed 1 rfl) (i := 1) rfl rfl ?_
  refine g_puti C kf_X8_25 rfl rfl (gdec dt_X8_failPassed 2 rfl) ?_
  refine g_aload_n C (gdec dt_X8_failPassed 3 rfl) (i := 0) rfl rfl ?_
  refine g_aload_n C (gdec dt_X8_failPassed 4 rfl) (i := 0) rfl rfl ?_
  refine g_getiv C kf_X8_40 rfl rfl (gdec dt_X8_failPassed 5 rfl) (v := (w.1 0 9)) rfl ?_
  refine g_puti C kf_X8_28 rfl rfl (gdec dt_X8_failPassed 6 rfl) ?_
  refine g_iconst C (gdec dt_X8_failPassed 7 rfl) ic_0 ?_
  cases hf
  exact g_zret C (Or.inl rfl) rfl (gdec dt_X8_failPassed 8 rfl)
set_option maxHeartbeats 4000000 in
set_option maxRecDepth 100000 in
theorem L_X8_passCompare_19 {p : Program} {l : Launch} {e : Env} {s : State} {m : MethodId} {args : Array Value} {below : List Frame} {meth : Method} {c : Code} {D : va_G} {cA ad : Nat → Nat} {q : (Int32 × GW)} (C : gC p c cX8_passCompare meth m s args 1 (some .boolean) RX8 D cA ad shT) (w : GW) (hf : f_X8_passCompare_19 w = some q) : gW p l e (gRm 2 140) s m args below meth c D cA ad shT 1 0 0 (gQ below D cA ad shT (some (.int q.1)) q.2 args s) 19 [(0, .ref 0)] [] w := by
  unfold f_X8_passCompare_19 at hf
  refine g_aload_n C (gdec dt_X8_passCompare 9 rfl) (i := 0) rfl rfl ?_
  obtain ⟨q4, hq4, hf⟩ := Option.bind_eq_some_iff.mp hf
  refine g_invV [] [] C (c_X8_failHere l D cA _ (gCi C) w  q4 hq4) kT_X8_failHere kl_X8_124 kim_X8_failHere kse_X8_failHere rfl rfl (i := 0) rfl rfl ⟨by decide, by decide⟩ gk0 (Nat.le_of_ble_eq_true rfl) (gdec dt_X8_passCompare 10 rfl) rfl (st2 := [.int q4.1]) rfl ?_
  obtain ⟨hb5, hf⟩ := gif hf
  cases hf
  exact g_zret C hb5 rfl (gdec dt_X8_passCompare 11 rfl)
set_option maxHeartbeats 4000000 in
set_option maxRecDepth 100000 in
theorem c_X8_passCompare (l : Launch) (D : va_G) (cA ad : Nat → Nat) (hin : gInj ad shT.length) (w : GW) (q : (Int32 × GW)) (hf : F_X8_passCompare w = some q) : gMet l yX8_passCompare cX8_passCompare 1 (some .boolean) 2 140 D cA ad shT [.ref 0] w (some (.int q.1)) q.2 := by
  refine g_entry (by decide) hin (Nat.le_of_ble_eq_true rfl) ?_
  intro p e s m args below meth c C
  unfold F_X8_passCompare at hf
  show gW p l e (gRm 2 140) s m args below meth c D cA ad shT 1 0 0 (gQ below D cA ad shT (some (.int q.1)) q.2 args s) 0 [(0, .ref 0)] [] w
  refine g_aload_n C (gdec dt_X8_passCompare 0 rfl) (i := 0) rfl rfl ?_
  refine g_geti C kf_X8_15 rfl rfl (gdec dt_X8_passCompare 1 rfl) ?_
  refine g_iconst C (gdec dt_X8_passCompare 2 rfl) ic_4 ?_
  refine g_icmp_ne C (tgt := 19) (gdec dt_X8_passCompare 3 rfl) (by decide) (fun hc1 => ?_) (fun hc1 => ?_)
  · have hf := (if_neg hc1).symm.trans hf
    refine g_sub [0] (lo2 := [(0, .ref 0)]) rfl ?_
    exact L_X8_passCompare_19 C w hf
  · have hf := (if_pos hc1).symm.trans hf
    refine g_aload_n C (gdec dt_X8_passCompare 4 rfl) (i := 0) rfl rfl ?_
    refine g_getl C kf_X8_37 rfl rfl (gdec dt_X8_passCompare 5 rfl) ?_
    refine g_ldc2 C kl2_X8_131 (gdec dt_X8_passCompare 6 rfl) ?_
    refine g_lcmp C (gdec dt_X8_passCompare 7 rfl) ?_
    refine g_if_ne C (tgt := 24) (gdec dt_X8_passCompare 8 rfl) (by decide) (fun hc2 => ?_) (fun hc2 => ?_)
    · have hf := (if_neg hc2).symm.trans hf
      refine g_aload_n C (gdec dt_X8_passCompare 12 rfl) (i := 0) rfl rfl ?_
      obtain ⟨q3, hq3, hf⟩ := Option.bind_eq_some_iff.mp hf
      refine g_invV [] [] C (c_X8_advance l D cA _ (gCi C) w  q3 hq3) kT_X8_advance kl_X8_72 kim_X8_advance kse_X8_advance rfl rfl (i := 0) rfl rfl ⟨by decide, by decide⟩ gk0 (Nat.le_of_ble_eq_true rfl) (gdec dt_X8_passCompare 13 rfl) rfl (st2 := []) rfl ?_
      refine g_iconst C (gdec dt_X8_passCompare 14 rfl) ic_1 ?_
      cases hf
      exact g_zret C (Or.inr rfl) rfl (gdec dt_X8_passCompare 15 rfl)
    · have hf := (if_pos hc2).symm.trans hf
      refine g_sub [0] (lo2 := [(0, .ref 0)]) rfl ?_
      exact L_X8_passCompare_19 C w hf
set_option maxHeartbeats 4000000 in
set_option maxRecDepth 100000 in
theorem c_X8_hasRoomFor (l : Launch) (D : va_G) (cA ad : Nat → Nat) (hin : gInj ad shT.length) (w : GW) (x1 : Int32) (q : Int32) (hf : F_X8_hasRoomFor w x1 = some q) : gMet l yX8_hasRoomFor cX8_hasRoomFor 2 (some .boolean) 1 120 D cA ad shT [.ref 0, .int x1] w (some (.int q)) w := by
  refine g_entry (by decide) hin (Nat.le_of_ble_eq_true rfl) ?_
  intro p e s m args below meth c C
  unfold F_X8_hasRoomFor at hf
  show gW p l e (gRm 1 120) s m args below meth c D cA ad shT 2 0 0 (gQ below D cA ad shT (some (.int q)) w args s) 0 [(0, .ref 0), (1, .int x1)] [] w
  refine g_aload_n C (gdec dt_X8_hasRoomFor 0 rfl) (i := 0) rfl rfl ?_
  refine g_geti C kf_X8_9 rfl rfl (gdec dt_X8_hasRoomFor 1 rfl) ?_
  refine g_sipush C (gdec dt_X8_hasRoomFor 2 rfl) sc_900 ?_
  refine g_iload_n C (gdec dt_X8_hasRoomFor 3 rfl) (i := 1) rfl rfl ?_
  refine g_isub C (gdec dt_X8_hasRoomFor 4 rfl) ?_
  refine g_icmp_gt C (tgt := 16) (gdec dt_X8_hasRoomFor 5 rfl) (by decide) (fun hc1 => ?_) (fun hc1 => ?_)
  · have hf := (if_pos hc1).symm.trans hf
    refine g_iconst C (gdec dt_X8_hasRoomFor 8 rfl) ic_0 ?_
    cases hf
    exact g_zret C (Or.inl rfl) rfl (gdec dt_X8_hasRoomFor 9 rfl)
  · have hf := (if_neg hc1).symm.trans hf
    refine g_iconst C (gdec dt_X8_hasRoomFor 6 rfl) ic_1 ?_
    refine g_goto C (tgt := 17) (gdec dt_X8_hasRoomFor 7 rfl) (by decide) ?_
    cases hf
    exact g_zret C (Or.inr rfl) rfl (gdec dt_X8_hasRoomFor 9 rfl)
set_option maxHeartbeats 4000000 in
set_option maxRecDepth 100000 in
theorem L_X8_append_47 {p : Program} {l : Launch} {e : Env} {s : State} {m : MethodId} {args : Array Value} {below : List Frame} {meth : Method} {c : Code} {D : va_G} {cA ad : Nat → Nat} {q : GW} (C : gC p c cX8_append meth m s args 3 none RX8 D cA ad shT) {k3 : Int32 → Int32 → GW → Option GW} (hk3 : ∀ (x1 : Int32) (x2 : Int32) (w : GW), k3 x1 x2 w = some q → gW p l e (gRm 1 120) s m args below meth c D cA ad shT 3 0 0 (gQ below D cA ad shT none q args s) 3 [(0, .ref 0), (1, .int x1), (2, .int x2)] [] w) (x1 : Int32) (x2 : Int32) (w : GW) (hf : f_X8_append_47 k3 x1 x2 w = some q) : gW p l e (gRm 1 120) s m args below meth c D cA ad shT 3 0 0 (gQ below D cA ad shT none q args s) 47 [(0, .ref 0), (1, .int x1), (2, .int x2)] [] w := by
  unfold f_X8_append_47 at hf
  refine g_iinc C (gdec dt_X8_append 26 rfl) (kk := 2) rfl (v := (x2 + (-8 : Int32))) rfl (by decide) (lo2 := [(2, .int (x2 + (-8 : Int32))), (0, .ref 0), (1, .int x1)]) rfl ?_
  refine g_goto C (tgt := 3) (gdec dt_X8_append 27 rfl) (by decide) ?_
  refine g_sub [1, 2, 0] (lo2 := [(0, .ref 0), (1, .int x1), (2, .int (x2 + (-8 : Int32)))]) rfl ?_
  exact hk3 x1 (x2 + (-8 : Int32)) w hf
set_option maxHeartbeats 4000000 in
set_option maxRecDepth 100000 in
theorem Lb_X8_append_3 {p : Program} {l : Launch} {e : Env} {s : State} {m : MethodId} {args : Array Value} {below : List Frame} {meth : Method} {c : Code} {D : va_G} {cA ad : Nat → Nat} {q : GW} (C : gC p c cX8_append meth m s args 3 none RX8 D cA ad shT) {k3 : Int32 → Int32 → GW → Option GW} (hk3 : ∀ (x1 : Int32) (x2 : Int32) (w : GW), k3 x1 x2 w = some q → gW p l e (gRm 1 120) s m args below meth c D cA ad shT 3 0 0 (gQ below D cA ad shT none q args s) 3 [(0, .ref 0), (1, .int x1), (2, .int x2)] [] w) (x1 : Int32) (x2 : Int32) (w : GW) (hf : b_X8_append_3 k3 x1 x2 w = some q) : gW p l e (gRm 1 120) s m args below meth c D cA ad shT 3 0 0 (gQ below D cA ad shT none q args s) 3 [(0, .ref 0), (1, .int x1), (2, .int x2)] [] w := by
  unfold b_X8_append_3 at hf
  refine g_iload_n C (gdec dt_X8_append 2 rfl) (i := 2) rfl rfl ?_
  refine g_if_lt C (tgt := 53) (gdec dt_X8_append 3 rfl) (by decide) (fun hc1 => ?_) (fun hc1 => ?_)
  · have hf := (if_pos hc1).symm.trans hf
    cases hf
    exact g_vret C rfl (gdec dt_X8_append 28 rfl)
  · have hf := (if_neg hc1).symm.trans hf
    refine g_aload_n C (gdec dt_X8_append 4 rfl) (i := 0) rfl rfl ?_
    refine g_geti C kf_X8_9 rfl rfl (gdec dt_X8_append 5 rfl) ?_
    refine g_if_lt C (tgt := 47) (gdec dt_X8_append 6 rfl) (by decide) (fun hc2 => ?_) (fun hc2 => ?_)
    · have hf := (if_pos hc2).symm.trans hf
      refine g_sub [0, 1, 2] (lo2 := [(0, .ref 0), (1, .int x1), (2, .int x2)]) rfl ?_
      exact L_X8_append_47 C hk3 x1 x2 w hf
    · have hf := (if_neg hc2).symm.trans hf
      refine g_aload_n C (gdec dt_X8_append 7 rfl) (i := 0) rfl rfl ?_
      refine g_geti C kf_X8_9 rfl rfl (gdec dt_X8_append 8 rfl) ?_
      refine g_sipush C (gdec dt_X8_append 9 rfl) sc_900 ?_
      refine g_icmp_ge C (tgt := 47) (gdec dt_X8_append 10 rfl) (by decide) (fun hc3 => ?_) (fun hc3 => ?_)
      · have hf := (if_pos hc3).symm.trans hf
        refine g_sub [0, 1, 2] (lo2 := [(0, .ref 0), (1, .int x1), (2, .int x2)]) rfl ?_
        exact L_X8_append_47 C hk3 x1 x2 w hf
      · have hf := (if_neg hc3).symm.trans hf
        refine g_aload_n C (gdec dt_X8_append 11 rfl) (i := 0) rfl rfl ?_
        refine g_getr C (j := 1) kf_X8_53 rfl rfl (gdec dt_X8_append 12 rfl) ?_
        refine g_aload_n C (gdec dt_X8_append 13 rfl) (i := 0) rfl rfl ?_
        refine g_geti C kf_X8_9 rfl rfl (gdec dt_X8_append 14 rfl) ?_
        refine g_iload_n C (gdec dt_X8_append 15 rfl) (i := 1) rfl rfl ?_
        refine g_iload_n C (gdec dt_X8_append 16 rfl) (i := 2) rfl rfl ?_
        refine g_ishr C (gdec dt_X8_append 17 rfl) ?_
        refine g_i2b C (gdec dt_X8_append 18 rfl) ?_
        obtain ⟨hg4, hf⟩ := gif hf
        refine g_bast C (i := 1) rfl hg4 rfl (gdec dt_X8_append 19 rfl) ?_
        refine g_aload_n C (gdec dt_X8_append 20 rfl) (i := 0) rfl rfl ?_
        refine g_dup C (gdec dt_X8_append 21 rfl) rfl ?_
        refine g_getiv C kf_X8_9 rfl rfl (gdec dt_X8_append 22 rfl) (v := (w.1 0 0)) rfl ?_
        refine g_iconst C (gdec dt_X8_append 23 rfl) ic_1 ?_
        refine g_iadd C (gdec dt_X8_append 24 rfl) ?_
        refine g_puti C kf_X8_9 rfl rfl (gdec dt_X8_append 25 rfl) ?_
        refine g_sub [0, 1, 2] (lo2 := [(0, .ref 0), (1, .int x1), (2, .int x2)]) rfl ?_
        exact L_X8_append_47 C hk3 x1 x2 (gI (gI w 1 (w.1 0 0).toNatClampNeg (vp_nar .byte (x1 >>> (x2 &&& 31)).toInt8.toInt32)) 0 0 ((w.1 0 0) + (1 : Int32))) hf
theorem L_X8_append_3 {p : Program} {l : Launch} {e : Env} {s : State} {m : MethodId} {args : Array Value} {below : List Frame} {meth : Method} {c : Code} {D : va_G} {cA ad : Nat → Nat} {q : GW} (C : gC p c cX8_append meth m s args 3 none RX8 D cA ad shT) : ∀ (n : Nat) (x1 : Int32) (x2 : Int32) (w : GW), f_X8_append_3 n x1 x2 w = some q → gW p l e (gRm 1 120) s m args below meth c D cA ad shT 3 0 0 (gQ below D cA ad shT none q args s) 3 [(0, .ref 0), (1, .int x1), (2, .int x2)] [] w := by
  intro n
  induction n with
  | zero => intro _ _ _ hf; cases hf
  | succ n ih => intro x1 x2 w hf; exact Lb_X8_append_3 C ih x1 x2 w hf
set_option maxHeartbeats 4000000 in
set_option maxRecDepth 100000 in
theorem c_X8_append (l : Launch) (D : va_G) (cA ad : Nat → Nat) (hin : gInj ad shT.length) (w : GW) (x1 : Int32) (q : GW) (hf : F_X8_append x1 w = some q) : gMet l yX8_append cX8_append 3 none 1 120 D cA ad shT [.ref 0, .int x1] w none q := by
  refine g_entry (by decide) hin (Nat.le_of_ble_eq_true rfl) ?_
  intro p e s m args below meth c C
  unfold F_X8_append at hf
  show gW p l e (gRm 1 120) s m args below meth c D cA ad shT 3 0 0 (gQ below D cA ad shT none q args s) 0 [(0, .ref 0), (1, .int x1)] [] w
  refine g_bipush C (gdec dt_X8_append 0 rfl) bc_24 ?_
  refine g_istore_n C (gdec dt_X8_append 1 rfl) (i := 2) rfl (by decide) (lo2 := [(2, .int (24 : Int32)), (0, .ref 0), (1, .int x1)]) rfl ?_
  refine g_sub [1, 2, 0] (lo2 := [(0, .ref 0), (1, .int x1), (2, .int (24 : Int32))]) rfl ?_
  exact L_X8_append_3 C FU x1 (24 : Int32) w hf
set_option maxHeartbeats 4000000 in
set_option maxRecDepth 100000 in
theorem c_X8_byteAt (l : Launch) (D : va_G) (cA ad : Nat → Nat) (hin : gInj ad shT.length) (w : GW) (x1 : Int32) (q : Int32) (hf : F_X8_byteAt w x1 = some q) : gMet l yX8_byteAt cX8_byteAt 2 (some .int) 1 120 D cA ad shT [.ref 0, .int x1] w (some (.int q)) w := by
  refine g_entry (by decide) hin (Nat.le_of_ble_eq_true rfl) ?_
  intro p e s m args below meth c C
  unfold F_X8_byteAt at hf
  show gW p l e (gRm 1 120) s m args below meth c D cA ad shT 2 0 0 (gQ below D cA ad shT (some (.int q)) w args s) 0 [(0, .ref 0), (1, .int x1)] [] w
  refine g_iload_n C (gdec dt_X8_byteAt 0 rfl) (i := 1) rfl rfl ?_
  refine g_if_lt C (tgt := 28) (gdec dt_X8_byteAt 1 rfl) (by decide) (fun hc1 => ?_) (fun hc1 => ?_)
  · have hf := (if_pos hc1).symm.trans hf
    refine g_iconst C (gdec dt_X8_byteAt 14 rfl) ic_m1 ?_
    cases hf
    exact g_iret C rfl (gdec dt_X8_byteAt 15 rfl)
  · have hf := (if_neg hc1).symm.trans hf
    refine g_iload_n C (gdec dt_X8_byteAt 2 rfl) (i := 1) rfl rfl ?_
    refine g_aload_n C (gdec dt_X8_byteAt 3 rfl) (i := 0) rfl rfl ?_
    refine g_geti C kf_X8_31 rfl rfl (gdec dt_X8_byteAt 4 rfl) ?_
    refine g_icmp_ge C (tgt := 28) (gdec dt_X8_byteAt 5 rfl) (by decide) (fun hc2 => ?_) (fun hc2 => ?_)
    · have hf := (if_pos hc2).symm.trans hf
      refine g_iconst C (gdec dt_X8_byteAt 14 rfl) ic_m1 ?_
      cases hf
      exact g_iret C rfl (gdec dt_X8_byteAt 15 rfl)
    · have hf := (if_neg hc2).symm.trans hf
      refine g_iload_n C (gdec dt_X8_byteAt 6 rfl) (i := 1) rfl rfl ?_
      refine g_sipush C (gdec dt_X8_byteAt 7 rfl) sc_900 ?_
      refine g_icmp_ge C (tgt := 28) (gdec dt_X8_byteAt 8 rfl) (by decide) (fun hc3 => ?_) (fun hc3 => ?_)
      · have hf := (if_pos hc3).symm.trans hf
        refine g_iconst C (gdec dt_X8_byteAt 14 rfl) ic_m1 ?_
        cases hf
        exact g_iret C rfl (gdec dt_X8_byteAt 15 rfl)
      · have hf := (if_neg hc3).symm.trans hf
        refine g_aload_n C (gdec dt_X8_byteAt 9 rfl) (i := 0) rfl rfl ?_
        refine g_getr C (j := 1) kf_X8_53 rfl rfl (gdec dt_X8_byteAt 10 rfl) ?_
        refine g_iload_n C (gdec dt_X8_byteAt 11 rfl) (i := 1) rfl rfl ?_
        obtain ⟨hg4, hf⟩ := gif hf
        refine g_bald C (i := 1) rfl hg4 rfl (gdec dt_X8_byteAt 12 rfl) ?_
        refine g_goto C (tgt := 29) (gdec dt_X8_byteAt 13 rfl) (by decide) ?_
        cases hf
        exact g_iret C rfl (gdec dt_X8_byteAt 15 rfl)
set_option maxHeartbeats 4000000 in
set_option maxRecDepth 100000 in
theorem c_X8_isBlank (l : Launch) (D : va_G) (cA ad : Nat → Nat) (hin : gInj ad shT.length) (w : GW) (x1 : Int32) (q : Int32) (hf : F_X8_isBlank w x1 = some q) : gMet l yX8_isBlank cX8_isBlank 2 (some .boolean) 2 141 D cA ad shT [.ref 0, .int x1] w (some (.int q)) w := by
  refine g_entry (by decide) hin (Nat.le_of_ble_eq_true rfl) ?_
  intro p e s m args below meth c C
  unfold F_X8_isBlank at hf
  show gW p l e (gRm 2 141) s m args below meth c D cA ad shT 2 0 0 (gQ below D cA ad shT (some (.int q)) w args s) 0 [(0, .ref 0), (1, .int x1)] [] w
  refine g_aload_n C (gdec dt_X8_isBlank 0 rfl) (i := 0) rfl rfl ?_
  refine g_iload_n C (gdec dt_X8_isBlank 1 rfl) (i := 1) rfl rfl ?_
  obtain ⟨q1, hq1, hf⟩ := Option.bind_eq_some_iff.mp hf
  refine g_invV [.int x1] [] C (c_X8_byteAt l D cA _ (gCi C) w x1 q1 hq1) kT_X8_byteAt kl_X8_75 kim_X8_byteAt kse_X8_byteAt rfl rfl (i := 0) rfl rfl ⟨by decide, by decide⟩ gk0 (Nat.le_of_ble_eq_true rfl) (gdec dt_X8_isBlank 2 rfl) rfl (st2 := [.int q1]) rfl ?_
  refine g_bipush C (gdec dt_X8_isBlank 3 rfl) bc_10 ?_
  refine g_icmp_eq C (tgt := 20) (gdec dt_X8_isBlank 4 rfl) (by decide) (fun hc2 => ?_) (fun hc2 => ?_)
  · have hf := (if_pos hc2).symm.trans hf
    refine g_iconst C (gdec dt_X8_isBlank 10 rfl) ic_1 ?_
    refine g_goto C (tgt := 25) (gdec dt_X8_isBlank 11 rfl) (by decide) ?_
    cases hf
    exact g_zret C (Or.inr rfl) rfl (gdec dt_X8_isBlank 13 rfl)
  · have hf := (if_neg hc2).symm.trans hf
    refine g_aload_n C (gdec dt_X8_isBlank 5 rfl) (i := 0) rfl rfl ?_
    refine g_iload_n C (gdec dt_X8_isBlank 6 rfl) (i := 1) rfl rfl ?_
    obtain ⟨q3, hq3, hf⟩ := Option.bind_eq_some_iff.mp hf
    refine g_invV [.int x1] [] C (c_X8_byteAt l D cA _ (gCi C) w x1 q3 hq3) kT_X8_byteAt kl_X8_75 kim_X8_byteAt kse_X8_byteAt rfl rfl (i := 0) rfl rfl ⟨by decide, by decide⟩ gk0 (Nat.le_of_ble_eq_true rfl) (gdec dt_X8_isBlank 7 rfl) rfl (st2 := [.int q3]) rfl ?_
    refine g_bipush C (gdec dt_X8_isBlank 8 rfl) bc_32 ?_
    refine g_icmp_ne C (tgt := 24) (gdec dt_X8_isBlank 9 rfl) (by decide) (fun hc4 => ?_) (fun hc4 => ?_)
    · have hf := (if_neg hc4).symm.trans hf
      refine g_iconst C (gdec dt_X8_isBlank 12 rfl) ic_0 ?_
      cases hf
      exact g_zret C (Or.inl rfl) rfl (gdec dt_X8_isBlank 13 rfl)
    · have hf := (if_pos hc4).symm.trans hf
      refine g_iconst C (gdec dt_X8_isBlank 10 rfl) ic_1 ?_
      refine g_goto C (tgt := 25) (gdec dt_X8_isBlank 11 rfl) (by decide) ?_
      cases hf
      exact g_zret C (Or.inr rfl) rfl (gdec dt_X8_isBlank 13 rfl)
set_option maxHeartbeats 4000000 in
set_option maxRecDepth 100000 in
theorem L_X8_addToken_73 {p : Program} {l : Launch} {e : Env} {s : State} {m : MethodId} {args : Array Value} {below : List Frame} {meth : Method} {c : Code} {D : va_G} {cA ad : Nat → Nat} {q : GW} (C : gC p c cX8_addToken meth m s args 5 none RX8 D cA ad shT) (s0 : Int32) (w : GW) (hf : f_X8_addToken_73 s0 w = some q) : gW p l e (gRm 1 120) s m args below meth c D cA ad shT 5 0 0 (gQ below D cA ad shT none q args s) 73 [] [.int s0, .ref 0] w := by
  unfold f_X8_addToken_73 at hf
  obtain ⟨hb6, hf⟩ := gif hf
  refine g_putz C kf_X8_49 rfl rfl hb6 (gdec dt_X8_addToken 40 rfl) ?_
  cases hf
  exact g_vret C rfl (gdec dt_X8_addToken 41 rfl)
set_option maxHeartbeats 4000000 in
set_option maxRecDepth 100000 in
theorem L_X8_addToken_68 {p : Program} {l : Launch} {e : Env} {s : State} {m : MethodId} {args : Array Value} {below : List Frame} {meth : Method} {c : Code} {D : va_G} {cA ad : Nat → Nat} {q : GW} (C : gC p c cX8_addToken meth m s args 5 none RX8 D cA ad shT) (w : GW) (hf : f_X8_addToken_68 w = some q) : gW p l e (gRm 1 120) s m args below meth c D cA ad shT 5 0 0 (gQ below D cA ad shT none q args s) 68 [] [.ref 0] w := by
  unfold f_X8_addToken_68 at hf
  refine g_iconst C (gdec dt_X8_addToken 37 rfl) ic_1 ?_
  refine g_goto C (tgt := 73) (gdec dt_X8_addToken 38 rfl) (by decide) ?_
  refine g_sub [] (lo2 := []) rfl ?_
  exact L_X8_addToken_73 C (1 : Int32) w hf
set_option maxHeartbeats 4000000 in
set_option maxRecDepth 100000 in
theorem L_X8_addToken_57 {p : Program} {l : Launch} {e : Env} {s : State} {m : MethodId} {args : Array Value} {below : List Frame} {meth : Method} {c : Code} {D : va_G} {cA ad : Nat → Nat} {q : GW} (C : gC p c cX8_addToken meth m s args 5 none RX8 D cA ad shT) (x1 : Int32) (w : GW) (hf : f_X8_addToken_57 x1 w = some q) : gW p l e (gRm 1 120) s m args below meth c D cA ad shT 5 0 0 (gQ below D cA ad shT none q args s) 57 [(0, .ref 0), (1, .int x1)] [] w := by
  unfold f_X8_addToken_57 at hf
  refine g_aload_n C (gdec dt_X8_addToken 31 rfl) (i := 0) rfl rfl ?_
  refine g_iload_n C (gdec dt_X8_addToken 32 rfl) (i := 1) rfl rfl ?_
  refine g_if_eq C (tgt := 68) (gdec dt_X8_addToken 33 rfl) (by decide) (fun hc4 => ?_) (fun hc4 => ?_)
  · have hf := (if_pos hc4).symm.trans hf
    refine g_sub [] (lo2 := []) rfl ?_
    exact L_X8_addToken_68 C w hf
  · have hf := (if_neg hc4).symm.trans hf
    refine g_iload_n C (gdec dt_X8_addToken 34 rfl) (i := 1) rfl rfl ?_
    refine g_bipush C (gdec dt_X8_addToken 35 rfl) bc_6 ?_
    refine g_icmp_ne C (tgt := 72) (gdec dt_X8_addToken 36 rfl) (by decide) (fun hc5 => ?_) (fun hc5 => ?_)
    · have hf := (if_neg hc5).symm.trans hf
      refine g_iconst C (gdec dt_X8_addToken 39 rfl) ic_0 ?_
      refine g_sub [] (lo2 := []) rfl ?_
      exact L_X8_addToken_73 C (0 : Int32) w hf
    · have hf := (if_pos hc5).symm.trans hf
      refine g_sub [] (lo2 := []) rfl ?_
      exact L_X8_addToken_68 C w hf
set_option maxHeartbeats 4000000 in
set_option maxRecDepth 100000 in
theorem c_X8_addToken (l : Launch) (D : va_G) (cA ad : Nat → Nat) (hin : gInj ad shT.length) (w : GW) (x1 : Int32) (x2 : Int32) (x3 : Int64) (q : GW) (hf : F_X8_addToken x1 x2 x3 w = some q) : gMet l yX8_addToken cX8_addToken 5 none 1 120 D cA ad shT [.ref 0, .int x1, .int x2, .long x3] w none q := by
  refine g_entry (by decide) hin (Nat.le_of_ble_eq_true rfl) ?_
  intro p e s m args below meth c C
  unfold F_X8_addToken at hf
  show gW p l e (gRm 1 120) s m args below meth c D cA ad shT 5 0 0 (gQ below D cA ad shT none q args s) 0 [(0, .ref 0), (1, .int x1), (2, .int x2), (3, .long x3)] [] w
  refine g_aload_n C (gdec dt_X8_addToken 0 rfl) (i := 0) rfl rfl ?_
  refine g_geti C kf_X8_43 rfl rfl (gdec dt_X8_addToken 1 rfl) ?_
  refine g_if_lt C (tgt := 57) (gdec dt_X8_addToken 2 rfl) (by decide) (fun hc1 => ?_) (fun hc1 => ?_)
  · have hf := (if_pos hc1).symm.trans hf
    refine g_sub [0, 1] (lo2 := [(0, .ref 0), (1, .int x1)]) rfl ?_
    exact L_X8_addToken_57 C x1 w hf
  · have hf := (if_neg hc1).symm.trans hf
    refine g_aload_n C (gdec dt_X8_addToken 3 rfl) (i := 0) rfl rfl ?_
    refine g_geti C kf_X8_43 rfl rfl (gdec dt_X8_addToken 4 rfl) ?_
    refine g_sipush C (gdec dt_X8_addToken 5 rfl) sc_901 ?_
    refine g_icmp_ge C (tgt := 57) (gdec dt_X8_addToken 6 rfl) (by decide) (fun hc2 => ?_) (fun hc2 => ?_)
    · have hf := (if_pos hc2).symm.trans hf
      refine g_sub [0, 1] (lo2 := [(0, .ref 0), (1, .int x1)]) rfl ?_
      exact L_X8_addToken_57 C x1 w hf
    · have hf := (if_neg hc2).symm.trans hf
      refine g_aload_n C (gdec dt_X8_addToken 7 rfl) (i := 0) rfl rfl ?_
      refine g_getr C (j := 2) kf_X8_57 rfl rfl (gdec dt_X8_addToken 8 rfl) ?_
      refine g_aload_n C (gdec dt_X8_addToken 9 rfl) (i := 0) rfl rfl ?_
      refine g_geti C kf_X8_43 rfl rfl (gdec dt_X8_addToken 10 rfl) ?_
      refine g_iload_n C (gdec dt_X8_addToken 11 rfl) (i := 1) rfl rfl ?_
      obtain ⟨hg3, hf⟩ := gif hf
      refine g_iast C (i := 2) rfl hg3 rfl (gdec dt_X8_addToken 12 rfl) ?_
      refine g_aload_n C (gdec dt_X8_addToken 13 rfl) (i := 0) rfl rfl ?_
      refine g_getr C (j := 3) kf_X8_61 rfl rfl (gdec dt_X8_addToken 14 rfl) ?_
      refine g_aload_n C (gdec dt_X8_addToken 15 rfl) (i := 0) rfl rfl ?_
      refine g_getiv C kf_X8_43 rfl rfl (gdec dt_X8_addToken 16 rfl) (v := (w.1 0 10)) rfl ?_
      refine g_iload_n C (gdec dt_X8_addToken 17 rfl) (i := 2) rfl rfl ?_
      refine g_iast C (i := 3) rfl hg3 rfl (gdec dt_X8_addToken 18 rfl) ?_
      refine g_aload_n C (gdec dt_X8_addToken 19 rfl) (i := 0) rfl rfl ?_
      refine g_getr C (j := 4) kf_X8_64 rfl rfl (gdec dt_X8_addToken 20 rfl) ?_
      refine g_aload_n C (gdec dt_X8_addToken 21 rfl) (i := 0) rfl rfl ?_
      refine g_getiv C kf_X8_43 rfl rfl (gdec dt_X8_addToken 22 rfl) (v := (w.1 0 10)) rfl ?_
      refine g_lload_n C (gdec dt_X8_addToken 23 rfl) (i := 3) rfl rfl ?_
      refine g_last C (i := 4) rfl hg3 rfl (gdec dt_X8_addToken 24 rfl) ?_
      refine g_aload_n C (gdec dt_X8_addToken 25 rfl) (i := 0) rfl rfl ?_
      refine g_dup C (gdec dt_X8_addToken 26 rfl) rfl ?_
      refine g_getiv C kf_X8_43 rfl rfl (gdec dt_X8_addToken 27 rfl) (v := (w.1 0 10)) rfl ?_
      refine g_iconst C (gdec dt_X8_addToken 28 rfl) ic_1 ?_
      refine g_iadd C (gdec dt_X8_addToken 29 rfl) ?_
      refine g_puti C kf_X8_43 rfl rfl (gdec dt_X8_addToken 30 rfl) ?_
      refine g_sub [0, 1] (lo2 := [(0, .ref 0), (1, .int x1)]) rfl ?_
      exact L_X8_addToken_57 C x1 (gI (gL (gI (gI w 2 (w.1 0 10).toNatClampNeg x1) 3 (w.1 0 10).toNatClampNeg x2) 4 (w.1 0 10).toNatClampNeg x3) 0 10 ((w.1 0 10) + (1 : Int32))) hf
set_option maxHeartbeats 4000000 in
set_option maxRecDepth 100000 in
theorem c_X8_isLetter (l : Launch) (D : va_G) (cA ad : Nat → Nat) (hin : gInj ad shT.length) (w : GW) (x1 : Int32) (q : Int32) (hf : F_X8_isLetter w x1 = some q) : gMet l yX8_isLetter cX8_isLetter 2 (some .boolean) 2 141 D cA ad shT [.ref 0, .int x1] w (some (.int q)) w := by
  refine g_entry (by decide) hin (Nat.le_of_ble_eq_true rfl) ?_
  intro p e s m args below meth c C
  unfold F_X8_isLetter at hf
  show gW p l e (gRm 2 141) s m args below meth c D cA ad shT 2 0 0 (gQ below D cA ad shT (some (.int q)) w args s) 0 [(0, .ref 0), (1, .int x1)] [] w
  refine g_aload_n C (gdec dt_X8_isLetter 0 rfl) (i := 0) rfl rfl ?_
  refine g_iload_n C (gdec dt_X8_isLetter 1 rfl) (i := 1) rfl rfl ?_
  obtain ⟨q1, hq1, hf⟩ := Option.bind_eq_some_iff.mp hf
  refine g_invV [.int x1] [] C (c_X8_byteAt l D cA _ (gCi C) w x1 q1 hq1) kT_X8_byteAt kl_X8_75 kim_X8_byteAt kse_X8_byteAt rfl rfl (i := 0) rfl rfl ⟨by decide, by decide⟩ gk0 (Nat.le_of_ble_eq_true rfl) (gdec dt_X8_isLetter 2 rfl) rfl (st2 := [.int q1]) rfl ?_
  refine g_bipush C (gdec dt_X8_isLetter 3 rfl) bc_97 ?_
  refine g_icmp_lt C (tgt := 24) (gdec dt_X8_isLetter 4 rfl) (by decide) (fun hc2 => ?_) (fun hc2 => ?_)
  · have hf := (if_pos hc2).symm.trans hf
    refine g_iconst C (gdec dt_X8_isLetter 12 rfl) ic_0 ?_
    cases hf
    exact g_zret C (Or.inl rfl) rfl (gdec dt_X8_isLetter 13 rfl)
  · have hf := (if_neg hc2).symm.trans hf
    refine g_aload_n C (gdec dt_X8_isLetter 5 rfl) (i := 0) rfl rfl ?_
    refine g_iload_n C (gdec dt_X8_isLetter 6 rfl) (i := 1) rfl rfl ?_
    obtain ⟨q3, hq3, hf⟩ := Option.bind_eq_some_iff.mp hf
    refine g_invV [.int x1] [] C (c_X8_byteAt l D cA _ (gCi C) w x1 q3 hq3) kT_X8_byteAt kl_X8_75 kim_X8_byteAt kse_X8_byteAt rfl rfl (i := 0) rfl rfl ⟨by decide, by decide⟩ gk0 (Nat.le_of_ble_eq_true rfl) (gdec dt_X8_isLetter 7 rfl) rfl (st2 := [.int q3]) rfl ?_
    refine g_bipush C (gdec dt_X8_isLetter 8 rfl) bc_122 ?_
    refine g_icmp_gt C (tgt := 24) (gdec dt_X8_isLetter 9 rfl) (by decide) (fun hc4 => ?_) (fun hc4 => ?_)
    · have hf := (if_pos hc4).symm.trans hf
      refine g_iconst C (gdec dt_X8_isLetter 12 rfl) ic_0 ?_
      cases hf
      exact g_zret C (Or.inl rfl) rfl (gdec dt_X8_isLetter 13 rfl)
    · have hf := (if_neg hc4).symm.trans hf
      refine g_iconst C (gdec dt_X8_isLetter 10 rfl) ic_1 ?_
      refine g_goto C (tgt := 25) (gdec dt_X8_isLetter 11 rfl) (by decide) ?_
      cases hf
      exact g_zret C (Or.inr rfl) rfl (gdec dt_X8_isLetter 13 rfl)
set_option maxHeartbeats 4000000 in
set_option maxRecDepth 100000 in
theorem Lb_X8_isWritten_3 {p : Program} {l : Launch} {e : Env} {s : State} {m : MethodId} {args : Array Value} {below : List Frame} {meth : Method} {c : Code} {D : va_G} {cA ad : Nat → Nat} {w : GW} {q : Int32} (C : gC p c cX8_isWritten meth m s args 5 (some .boolean) RX8 D cA ad shT) {k3 : Int32 → Int32 → Int32 → Int32 → Option Int32} (hk3 : ∀ (x1 : Int32) (x2 : Int32) (x3 : Int32) (x4 : Int32), k3 x1 x2 x3 x4 = some q → gW p l e (gRm 6 622) s m args below meth c D cA ad shT 5 0 0 (gQ below D cA ad shT (some (.int q)) w args s) 3 [(0, .ref 0), (1, .int x1), (2, .int x2), (3, .int x3), (4, .int x4)] [] w) (x1 : Int32) (x2 : Int32) (x3 : Int32) (x4 : Int32) (hf : b_X8_isWritten_3 k3 w x1 x2 x3 x4 = some q) : gW p l e (gRm 6 622) s m args below meth c D cA ad shT 5 0 0 (gQ below D cA ad shT (some (.int q)) w args s) 3 [(0, .ref 0), (1, .int x1), (2, .int x2), (3, .int x3), (4, .int x4)] [] w := by
  unfold b_X8_isWritten_3 at hf
  refine g_iload C (gdec dt_X8_isWritten 2 rfl) rfl ?_
  refine g_iload_n C (gdec dt_X8_isWritten 3 rfl) (i := 2) rfl rfl ?_
  refine g_iload_n C (gdec dt_X8_isWritten 4 rfl) (i := 1) rfl rfl ?_
  refine g_isub C (gdec dt_X8_isWritten 5 rfl) ?_
  refine g_icmp_ge C (tgt := 51) (gdec dt_X8_isWritten 6 rfl) (by decide) (fun hc1 => ?_) (fun hc1 => ?_)
  · have hf := (if_pos hc1).symm.trans hf
    refine g_iconst C (gdec dt_X8_isWritten 28 rfl) ic_1 ?_
    cases hf
    exact g_zret C (Or.inr rfl) rfl (gdec dt_X8_isWritten 29 rfl)
  · have hf := (if_neg hc1).symm.trans hf
    refine g_iload_n C (gdec dt_X8_isWritten 7 rfl) (i := 3) rfl rfl ?_
    refine g_iload C (gdec dt_X8_isWritten 8 rfl) rfl ?_
    refine g_iadd C (gdec dt_X8_isWritten 9 rfl) ?_
    refine g_ldcW C (gdec dt_X8_isWritten 10 rfl) ?_
    refine g_slenW C (gdec dt_X8_isWritten 11 rfl) kl_X8_111 (Nat.le_of_ble_eq_true rfl) ⟨by decide, by decide⟩ gk0 ?_
    refine g_icmp_ge C (tgt := 43) (gdec dt_X8_isWritten 12 rfl) (by decide) (fun hc2 => ?_) (fun hc2 => ?_)
    · have hf := (if_pos hc2).symm.trans hf
      refine g_iconst C (gdec dt_X8_isWritten 24 rfl) ic_0 ?_
      cases hf
      exact g_zret C (Or.inl rfl) rfl (gdec dt_X8_isWritten 25 rfl)
    · have hf := (if_neg hc2).symm.trans hf
      refine g_ldcW C (gdec dt_X8_isWritten 13 rfl) ?_
      refine g_iload_n C (gdec dt_X8_isWritten 14 rfl) (i := 3) rfl rfl ?_
      refine g_iload C (gdec dt_X8_isWritten 15 rfl) rfl ?_
      refine g_iadd C (gdec dt_X8_isWritten 16 rfl) ?_
      obtain ⟨hg3, hf⟩ := gif hf
      refine g_scharW C (gdec dt_X8_isWritten 17 rfl) kl_X8_116 hg3 (Nat.le_of_ble_eq_true rfl) ⟨by decide, by decide⟩ gk0 ?_
      refine g_aload_n C (gdec dt_X8_isWritten 18 rfl) (i := 0) rfl rfl ?_
      refine g_iload_n C (gdec dt_X8_isWritten 19 rfl) (i := 1) rfl rfl ?_
      refine g_iload C (gdec dt_X8_isWritten 20 rfl) rfl ?_
      refine g_iadd C (gdec dt_X8_isWritten 21 rfl) ?_
      obtain ⟨q4, hq4, hf⟩ := Option.bind_eq_some_iff.mp hf
      refine g_invV [.int (x1 + x4)] [.int (txW.getD (x3 + x4).toNatClampNeg 0)] C (c_X8_byteAt l D cA _ (gCi C) w (x1 + x4) q4 hq4) kT_X8_byteAt kl_X8_75 kim_X8_byteAt kse_X8_byteAt rfl rfl (i := 0) rfl rfl ⟨by decide, by decide⟩ gk0 (Nat.le_of_ble_eq_true rfl) (gdec dt_X8_isWritten 22 rfl) rfl (st2 := [.int q4, .int (txW.getD (x3 + x4).toNatClampNeg 0)]) rfl ?_
      refine g_icmp_eq C (tgt := 45) (gdec dt_X8_isWritten 23 rfl) (by decide) (fun hc5 => ?_) (fun hc5 => ?_)
      · have hf := (if_pos hc5).symm.trans hf
        refine g_iinc C (gdec dt_X8_isWritten 26 rfl) (kk := 4) rfl (v := (x4 + (1 : Int32))) rfl (by decide) (lo2 := [(4, .int (x4 + (1 : Int32))), (0, .ref 0), (1, .int x1), (2, .int x2), (3, .int x3)]) rfl ?_
        refine g_goto C (tgt := 3) (gdec dt_X8_isWritten 27 rfl) (by decide) ?_
        refine g_sub [1, 2, 3, 4, 0] (lo2 := [(0, .ref 0), (1, .int x1), (2, .int x2), (3, .int x3), (4, .int (x4 + (1 : Int32)))]) rfl ?_
        exact hk3 x1 x2 x3 (x4 + (1 : Int32)) hf
      · have hf := (if_neg hc5).symm.trans hf
        refine g_iconst C (gdec dt_X8_isWritten 24 rfl) ic_0 ?_
        cases hf
        exact g_zret C (Or.inl rfl) rfl (gdec dt_X8_isWritten 25 rfl)
theorem L_X8_isWritten_3 {p : Program} {l : Launch} {e : Env} {s : State} {m : MethodId} {args : Array Value} {below : List Frame} {meth : Method} {c : Code} {D : va_G} {cA ad : Nat → Nat} {w : GW} {q : Int32} (C : gC p c cX8_isWritten meth m s args 5 (some .boolean) RX8 D cA ad shT) : ∀ (n : Nat) (x1 : Int32) (x2 : Int32) (x3 : Int32) (x4 : Int32), f_X8_isWritten_3 w n x1 x2 x3 x4 = some q → gW p l e (gRm 6 622) s m args below meth c D cA ad shT 5 0 0 (gQ below D cA ad shT (some (.int q)) w args s) 3 [(0, .ref 0), (1, .int x1), (2, .int x2), (3, .int x3), (4, .int x4)] [] w := by
  intro n
  induction n with
  | zero => intro _ _ _ _ hf; cases hf
  | succ n ih => intro x1 x2 x3 x4 hf; exact Lb_X8_isWritten_3 C ih x1 x2 x3 x4 hf
set_option maxHeartbeats 4000000 in
set_option maxRecDepth 100000 in
theorem c_X8_isWritten (l : Launch) (D : va_G) (cA ad : Nat → Nat) (hin : gInj ad shT.length) (w : GW) (x1 : Int32) (x2 : Int32) (x3 : Int32) (q : Int32) (hf : F_X8_isWritten w x1 x2 x3 = some q) : gMet l yX8_isWritten cX8_isWritten 5 (some .boolean) 6 622 D cA ad shT [.ref 0, .int x1, .int x2, .int x3] w (some (.int q)) w := by
  refine g_entry (by decide) hin (Nat.le_of_ble_eq_true rfl) ?_
  intro p e s m args below meth c C
  unfold F_X8_isWritten at hf
  show gW p l e (gRm 6 622) s m args below meth c D cA ad shT 5 0 0 (gQ below D cA ad shT (some (.int q)) w args s) 0 [(0, .ref 0), (1, .int x1), (2, .int x2), (3, .int x3)] [] w
  refine g_iconst C (gdec dt_X8_isWritten 0 rfl) ic_0 ?_
  refine g_istore C (gdec dt_X8_isWritten 1 rfl) (by decide) (lo2 := [(4, .int (0 : Int32)), (0, .ref 0), (1, .int x1), (2, .int x2), (3, .int x3)]) rfl ?_
  refine g_sub [1, 2, 3, 4, 0] (lo2 := [(0, .ref 0), (1, .int x1), (2, .int x2), (3, .int x3), (4, .int (0 : Int32))]) rfl ?_
  exact L_X8_isWritten_3 C FU x1 x2 x3 (0 : Int32) hf
set_option maxHeartbeats 4000000 in
set_option maxRecDepth 100000 in
theorem L_X8_knownWord_63 {p : Program} {l : Launch} {e : Env} {s : State} {m : MethodId} {args : Array Value} {below : List Frame} {meth : Method} {c : Code} {D : va_G} {cA ad : Nat → Nat} {w : GW} {q : Int32} (C : gC p c cX8_knownWord meth m s args 6 (some .int) RX8 D cA ad shT) {k8 : Int32 → Int32 → Int32 → Int32 → Int32 → Option Int32} (hk8 : ∀ (x1 : Int32) (x2 : Int32) (x3 : Int32) (x4 : Int32) (x5 : Int32), k8 x1 x2 x3 x4 x5 = some q → gW p l e (gRm 7 646) s m args below meth c D cA ad shT 6 0 0 (gQ below D cA ad shT (some (.int q)) w args s) 8 [(0, .ref 0), (1, .int x1), (2, .int x2), (3, .int x3), (4, .int x4), (5, .int x5)] [] w) (x1 : Int32) (x2 : Int32) (x3 : Int32) (x4 : Int32) (x5 : Int32) (hf : f_X8_knownWord_63 k8 w x1 x2 x3 x4 x5 = some q) : gW p l e (gRm 7 646) s m args below meth c D cA ad shT 6 0 0 (gQ below D cA ad shT (some (.int q)) w args s) 63 [(0, .ref 0), (1, .int x1), (2, .int x2), (3, .int x3), (4, .int x4), (5, .int x5)] [] w := by
  unfold f_X8_knownWord_63 at hf
  refine g_iinc C (gdec dt_X8_knownWord 35 rfl) (kk := 5) rfl (v := (x5 + (1 : Int32))) rfl (by decide) (lo2 := [(5, .int (x5 + (1 : Int32))), (0, .ref 0), (1, .int x1), (2, .int x2), (3, .int x3), (4, .int x4)]) rfl ?_
  refine g_goto C (tgt := 8) (gdec dt_X8_knownWord 36 rfl) (by decide) ?_
  refine g_sub [1, 2, 3, 4, 5, 0] (lo2 := [(0, .ref 0), (1, .int x1), (2, .int x2), (3, .int x3), (4, .int x4), (5, .int (x5 + (1 : Int32)))]) rfl ?_
  exact hk8 x1 x2 x3 x4 (x5 + (1 : Int32)) hf
set_option maxHeartbeats 4000000 in
set_option maxRecDepth 100000 in
theorem L_X8_knownWord_54 {p : Program} {l : Launch} {e : Env} {s : State} {m : MethodId} {args : Array Value} {below : List Frame} {meth : Method} {c : Code} {D : va_G} {cA ad : Nat → Nat} {w : GW} {q : Int32} (C : gC p c cX8_knownWord meth m s args 6 (some .int) RX8 D cA ad shT) {k8 : Int32 → Int32 → Int32 → Int32 → Int32 → Option Int32} (hk8 : ∀ (x1 : Int32) (x2 : Int32) (x3 : Int32) (x4 : Int32) (x5 : Int32), k8 x1 x2 x3 x4 x5 = some q → gW p l e (gRm 7 646) s m args below meth c D cA ad shT 6 0 0 (gQ below D cA ad shT (some (.int q)) w args s) 8 [(0, .ref 0), (1, .int x1), (2, .int x2), (3, .int x3), (4, .int x4), (5, .int x5)] [] w) (x1 : Int32) (x2 : Int32) (x3 : Int32) (x5 : Int32) (hf : f_X8_knownWord_54 k8 w x1 x2 x3 x5 = some q) : gW p l e (gRm 7 646) s m args below meth c D cA ad shT 6 0 0 (gQ below D cA ad shT (some (.int q)) w args s) 54 [(0, .ref 0), (1, .int x1), (2, .int x2), (3, .int x3), (5, .int x5)] [] w := by
  unfold f_X8_knownWord_54 at hf
  refine g_iinc C (gdec dt_X8_knownWord 30 rfl) (kk := 3) rfl (v := (x3 + (1 : Int32))) rfl (by decide) (lo2 := [(3, .int (x3 + (1 : Int32))), (0, .ref 0), (1, .int x1), (2, .int x2), (5, .int x5)]) rfl ?_
  refine g_iload C (gdec dt_X8_knownWord 31 rfl) rfl ?_
  refine g_iconst C (gdec dt_X8_knownWord 32 rfl) ic_1 ?_
  refine g_iadd C (gdec dt_X8_knownWord 33 rfl) ?_
  refine g_istore C (gdec dt_X8_knownWord 34 rfl) (by decide) (lo2 := [(4, .int (x5 + (1 : Int32))), (3, .int (x3 + (1 : Int32))), (0, .ref 0), (1, .int x1), (2, .int x2), (5, .int x5)]) rfl ?_
  refine g_sub [2, 3, 4, 1, 0, 5] (lo2 := [(0, .ref 0), (1, .int x1), (2, .int x2), (3, .int (x3 + (1 : Int32))), (4, .int (x5 + (1 : Int32))), (5, .int x5)]) rfl ?_
  exact L_X8_knownWord_63 C hk8 x1 x2 (x3 + (1 : Int32)) (x5 + (1 : Int32)) x5 hf
set_option maxHeartbeats 4000000 in
set_option maxRecDepth 100000 in
theorem Lb_X8_knownWord_8 {p : Program} {l : Launch} {e : Env} {s : State} {m : MethodId} {args : Array Value} {below : List Frame} {meth : Method} {c : Code} {D : va_G} {cA ad : Nat → Nat} {w : GW} {q : Int32} (C : gC p c cX8_knownWord meth m s args 6 (some .int) RX8 D cA ad shT) {k8 : Int32 → Int32 → Int32 → Int32 → Int32 → Option Int32} (hk8 : ∀ (x1 : Int32) (x2 : Int32) (x3 : Int32) (x4 : Int32) (x5 : Int32), k8 x1 x2 x3 x4 x5 = some q → gW p l e (gRm 7 646) s m args below meth c D cA ad shT 6 0 0 (gQ below D cA ad shT (some (.int q)) w args s) 8 [(0, .ref 0), (1, .int x1), (2, .int x2), (3, .int x3), (4, .int x4), (5, .int x5)] [] w) (x1 : Int32) (x2 : Int32) (x3 : Int32) (x4 : Int32) (x5 : Int32) (hf : b_X8_knownWord_8 k8 w x1 x2 x3 x4 x5 = some q) : gW p l e (gRm 7 646) s m args below meth c D cA ad shT 6 0 0 (gQ below D cA ad shT (some (.int q)) w args s) 8 [(0, .ref 0), (1, .int x1), (2, .int x2), (3, .int x3), (4, .int x4), (5, .int x5)] [] w := by
  unfold b_X8_knownWord_8 at hf
  refine g_iload C (gdec dt_X8_knownWord 6 rfl) rfl ?_
  refine g_ldcW C (gdec dt_X8_knownWord 7 rfl) ?_
  refine g_slenW C (gdec dt_X8_knownWord 8 rfl) kl_X8_111 (Nat.le_of_ble_eq_true rfl) ⟨by decide, by decide⟩ gk0 ?_
  refine g_icmp_ge C (tgt := 69) (gdec dt_X8_knownWord 9 rfl) (by decide) (fun hc1 => ?_) (fun hc1 => ?_)
  · have hf := (if_pos hc1).symm.trans hf
    refine g_iconst C (gdec dt_X8_knownWord 37 rfl) ic_m1 ?_
    cases hf
    exact g_iret C rfl (gdec dt_X8_knownWord 38 rfl)
  · have hf := (if_neg hc1).symm.trans hf
    refine g_ldcW C (gdec dt_X8_knownWord 10 rfl) ?_
    refine g_iload C (gdec dt_X8_knownWord 11 rfl) rfl ?_
    obtain ⟨hg2, hf⟩ := gif hf
    refine g_scharW C (gdec dt_X8_knownWord 12 rfl) kl_X8_116 hg2 (Nat.le_of_ble_eq_true rfl) ⟨by decide, by decide⟩ gk0 ?_
    refine g_bipush C (gdec dt_X8_knownWord 13 rfl) bc_32 ?_
    refine g_icmp_ne C (tgt := 63) (gdec dt_X8_knownWord 14 rfl) (by decide) (fun hc3 => ?_) (fun hc3 => ?_)
    · have hf := (if_neg hc3).symm.trans hf
      refine g_sub [0, 1, 2, 3, 4, 5] (lo2 := [(0, .ref 0), (1, .int x1), (2, .int x2), (3, .int x3), (4, .int x4), (5, .int x5)]) rfl ?_
      exact L_X8_knownWord_63 C hk8 x1 x2 x3 x4 x5 hf
    · have hf := (if_pos hc3).symm.trans hf
      refine g_iload C (gdec dt_X8_knownWord 15 rfl) rfl ?_
      refine g_iload C (gdec dt_X8_knownWord 16 rfl) rfl ?_
      refine g_isub C (gdec dt_X8_knownWord 17 rfl) ?_
      refine g_iload_n C (gdec dt_X8_knownWord 18 rfl) (i := 2) rfl rfl ?_
      refine g_iload_n C (gdec dt_X8_knownWord 19 rfl) (i := 1) rfl rfl ?_
      refine g_isub C (gdec dt_X8_knownWord 20 rfl) ?_
      refine g_icmp_ne C (tgt := 54) (gdec dt_X8_knownWord 21 rfl) (by decide) (fun hc4 => ?_) (fun hc4 => ?_)
      · have hf := (if_neg hc4).symm.trans hf
        refine g_sub [0, 1, 2, 3, 5] (lo2 := [(0, .ref 0), (1, .int x1), (2, .int x2), (3, .int x3), (5, .int x5)]) rfl ?_
        exact L_X8_knownWord_54 C hk8 x1 x2 x3 x5 hf
      · have hf := (if_pos hc4).symm.trans hf
        refine g_aload_n C (gdec dt_X8_knownWord 22 rfl) (i := 0) rfl rfl ?_
        refine g_iload_n C (gdec dt_X8_knownWord 23 rfl) (i := 1) rfl rfl ?_
        refine g_iload_n C (gdec dt_X8_knownWord 24 rfl) (i := 2) rfl rfl ?_
        refine g_iload C (gdec dt_X8_knownWord 25 rfl) rfl ?_
        obtain ⟨q5, hq5, hf⟩ := Option.bind_eq_some_iff.mp hf
        refine g_invV [.int x1, .int x2, .int x4] [] C (c_X8_isWritten l D cA _ (gCi C) w x1 x2 x4 q5 hq5) kT_X8_isWritten kl_X8_120 kim_X8_isWritten kse_X8_isWritten rfl rfl (i := 0) rfl rfl ⟨by decide, by decide⟩ gk0 (Nat.le_of_ble_eq_true rfl) (gdec dt_X8_knownWord 26 rfl) rfl (st2 := [.int q5]) rfl ?_
        refine g_if_eq C (tgt := 54) (gdec dt_X8_knownWord 27 rfl) (by decide) (fun hc6 => ?_) (fun hc6 => ?_)
        · have hf := (if_pos hc6).symm.trans hf
          refine g_sub [0, 1, 2, 3, 5] (lo2 := [(0, .ref 0), (1, .int x1), (2, .int x2), (3, .int x3), (5, .int x5)]) rfl ?_
          exact L_X8_knownWord_54 C hk8 x1 x2 x3 x5 hf
        · have hf := (if_neg hc6).symm.trans hf
          refine g_iload_n C (gdec dt_X8_knownWord 28 rfl) (i := 3) rfl rfl ?_
          cases hf
          exact g_iret C rfl (gdec dt_X8_knownWord 29 rfl)
theorem L_X8_knownWord_8 {p : Program} {l : Launch} {e : Env} {s : State} {m : MethodId} {args : Array Value} {below : List Frame} {meth : Method} {c : Code} {D : va_G} {cA ad : Nat → Nat} {w : GW} {q : Int32} (C : gC p c cX8_knownWord meth m s args 6 (some .int) RX8 D cA ad shT) : ∀ (n : Nat) (x1 : Int32) (x2 : Int32) (x3 : Int32) (x4 : Int32) (x5 : Int32), f_X8_knownWord_8 w n x1 x2 x3 x4 x5 = some q → gW p l e (gRm 7 646) s m args below meth c D cA ad shT 6 0 0 (gQ below D cA ad shT (some (.int q)) w args s) 8 [(0, .ref 0), (1, .int x1), (2, .int x2), (3, .int x3), (4, .int x4), (5, .int x5)] [] w := by
  intro n
  induction n with
  | zero => intro _ _ _ _ _ hf; cases hf
  | succ n ih => intro x1 x2 x3 x4 x5 hf; exact Lb_X8_knownWord_8 C ih x1 x2 x3 x4 x5 hf
set_option maxHeartbeats 4000000 in
set_option maxRecDepth 100000 in
theorem c_X8_knownWord (l : Launch) (D : va_G) (cA ad : Nat → Nat) (hin : gInj ad shT.length) (w : GW) (x1 : Int32) (x2 : Int32) (q : Int32) (hf : F_X8_knownWord w x1 x2 = some q) : gMet l yX8_knownWord cX8_knownWord 6 (some .int) 7 646 D cA ad shT [.ref 0, .int x1, .int x2] w (some (.int q)) w := by
  refine g_entry (by decide) hin (Nat.le_of_ble_eq_true rfl) ?_
  intro p e s m args below meth c C
  unfold F_X8_knownWord at hf
  show gW p l e (gRm 7 646) s m args below meth c D cA ad shT 6 0 0 (gQ below D cA ad shT (some (.int q)) w args s) 0 [(0, .ref 0), (1, .int x1), (2, .int x2)] [] w
  refine g_iconst C (gdec dt_X8_knownWord 0 rfl) ic_0 ?_
  refine g_istore_n C (gdec dt_X8_knownWord 1 rfl) (i := 3) rfl (by decide) (lo2 := [(3, .int (0 : Int32)), (0, .ref 0), (1, .int x1), (2, .int x2)]) rfl ?_
  refine g_iconst C (gdec dt_X8_knownWord 2 rfl) ic_0 ?_
  refine g_istore C (gdec dt_X8_knownWord 3 rfl) (by decide) (lo2 := [(4, .int (0 : Int32)), (3, .int (0 : Int32)), (0, .ref 0), (1, .int x1), (2, .int x2)]) rfl ?_
  refine g_iconst C (gdec dt_X8_knownWord 4 rfl) ic_0 ?_
  refine g_istore C (gdec dt_X8_knownWord 5 rfl) (by decide) (lo2 := [(5, .int (0 : Int32)), (4, .int (0 : Int32)), (3, .int (0 : Int32)), (0, .ref 0), (1, .int x1), (2, .int x2)]) rfl ?_
  refine g_sub [3, 4, 5, 2, 1, 0] (lo2 := [(0, .ref 0), (1, .int x1), (2, .int x2), (3, .int (0 : Int32)), (4, .int (0 : Int32)), (5, .int (0 : Int32))]) rfl ?_
  exact L_X8_knownWord_8 C FU x1 x2 (0 : Int32) (0 : Int32) (0 : Int32) hf
set_option maxHeartbeats 4000000 in
set_option maxRecDepth 100000 in
theorem L_X8_scanWord_84 {p : Program} {l : Launch} {e : Env} {s : State} {m : MethodId} {args : Array Value} {below : List Frame} {meth : Method} {c : Code} {D : va_G} {cA ad : Nat → Nat} {q : (Int32 × GW)} (C : gC p c cX8_scanWord meth m s args 6 (some .int) RX8 D cA ad shT) (x1 : Int32) (x2 : Int32) (x3 : Int64) (s0 : Int32) (w : GW) (hf : f_X8_scanWord_84 x1 x2 x3 s0 w = some q) : gW p l e (gRm 8 671) s m args below meth c D cA ad shT 6 0 0 (gQ below D cA ad shT (some (.int q.1)) q.2 args s) 84 [(1, .int x1), (2, .int x2), (3, .long x3)] [.int s0, .ref 0] w := by
  unfold f_X8_scanWord_84 at hf
  refine g_iload_n C (gdec dt_X8_scanWord 51 rfl) (i := 1) rfl rfl ?_
  refine g_lload_n C (gdec dt_X8_scanWord 52 rfl) (i := 3) rfl rfl ?_
  obtain ⟨q9, hq9, hf⟩ := Option.bind_eq_some_iff.mp hf
  refine g_invV [.int s0, .int x1, .long x3] [] C (c_X8_addToken l D cA _ (gCi C) w s0 x1 x3 q9 hq9) kT_X8_addToken kl_X8_82 kim_X8_addToken kse_X8_addToken rfl rfl (i := 0) rfl rfl ⟨by decide, by decide⟩ gk0 (Nat.le_of_ble_eq_true rfl) (gdec dt_X8_scanWord 53 rfl) rfl (st2 := []) rfl ?_
  refine g_iload_n C (gdec dt_X8_scanWord 54 rfl) (i := 2) rfl rfl ?_
  cases hf
  exact g_iret C rfl (gdec dt_X8_scanWord 55 rfl)
set_option maxHeartbeats 4000000 in
set_option maxRecDepth 100000 in
theorem L_X8_scanWord_44 {p : Program} {l : Launch} {e : Env} {s : State} {m : MethodId} {args : Array Value} {below : List Frame} {meth : Method} {c : Code} {D : va_G} {cA ad : Nat → Nat} {q : (Int32 × GW)} (C : gC p c cX8_scanWord meth m s args 6 (some .int) RX8 D cA ad shT) (x1 : Int32) (x2 : Int32) (x3 : Int64) (w : GW) (hf : f_X8_scanWord_44 x1 x2 x3 w = some q) : gW p l e (gRm 8 671) s m args below meth c D cA ad shT 6 0 0 (gQ below D cA ad shT (some (.int q.1)) q.2 args s) 44 [(0, .ref 0), (1, .int x1), (2, .int x2), (3, .long x3)] [] w := by
  unfold f_X8_scanWord_44 at hf
  refine g_aload_n C (gdec dt_X8_scanWord 27 rfl) (i := 0) rfl rfl ?_
  refine g_iload_n C (gdec dt_X8_scanWord 28 rfl) (i := 1) rfl rfl ?_
  refine g_iload_n C (gdec dt_X8_scanWord 29 rfl) (i := 2) rfl rfl ?_
  obtain ⟨q5, hq5, hf⟩ := Option.bind_eq_some_iff.mp hf
  refine g_invV [.int x1, .int x2] [] C (c_X8_knownWord l D cA _ (gCi C) w x1 x2 q5 hq5) kT_X8_knownWord kl_X8_103 kim_X8_knownWord kse_X8_knownWord rfl rfl (i := 0) rfl rfl ⟨by decide, by decide⟩ gk0 (Nat.le_of_ble_eq_true rfl) (gdec dt_X8_scanWord 30 rfl) rfl (st2 := [.int q5]) rfl ?_
  refine g_istore C (gdec dt_X8_scanWord 31 rfl) (by decide) (lo2 := [(5, .int q5), (0, .ref 0), (1, .int x1), (2, .int x2), (3, .long x3)]) rfl ?_
  refine g_iload C (gdec dt_X8_scanWord 32 rfl) rfl ?_
  refine g_iconst C (gdec dt_X8_scanWord 33 rfl) ic_m1 ?_
  refine g_icmp_eq C (tgt := 70) (gdec dt_X8_scanWord 34 rfl) (by decide) (fun hc6 => ?_) (fun hc6 => ?_)
  · have hf := (if_pos hc6).symm.trans hf
    refine g_aload_n C (gdec dt_X8_scanWord 42 rfl) (i := 0) rfl rfl ?_
    refine g_iload_n C (gdec dt_X8_scanWord 43 rfl) (i := 2) rfl rfl ?_
    refine g_iload_n C (gdec dt_X8_scanWord 44 rfl) (i := 1) rfl rfl ?_
    refine g_isub C (gdec dt_X8_scanWord 45 rfl) ?_
    refine g_bipush C (gdec dt_X8_scanWord 46 rfl) bc_8 ?_
    refine g_icmp_gt C (tgt := 83) (gdec dt_X8_scanWord 47 rfl) (by decide) (fun hc7 => ?_) (fun hc7 => ?_)
    · have hf := (if_pos hc7).symm.trans hf
      refine g_iconst C (gdec dt_X8_scanWord 50 rfl) ic_5 ?_
      refine g_sub [2, 3, 4] (lo2 := [(1, .int x1), (2, .int x2), (3, .long x3)]) rfl ?_
      exact L_X8_scanWord_84 C x1 x2 x3 (5 : Int32) w hf
    · have hf := (if_neg hc7).symm.trans hf
      refine g_iconst C (gdec dt_X8_scanWord 48 rfl) ic_2 ?_
      refine g_goto C (tgt := 84) (gdec dt_X8_scanWord 49 rfl) (by decide) ?_
      refine g_sub [2, 3, 4] (lo2 := [(1, .int x1), (2, .int x2), (3, .long x3)]) rfl ?_
      exact L_X8_scanWord_84 C x1 x2 x3 (2 : Int32) w hf
  · have hf := (if_neg hc6).symm.trans hf
    refine g_aload_n C (gdec dt_X8_scanWord 35 rfl) (i := 0) rfl rfl ?_
    refine g_iconst C (gdec dt_X8_scanWord 36 rfl) ic_1 ?_
    refine g_iload_n C (gdec dt_X8_scanWord 37 rfl) (i := 1) rfl rfl ?_
    refine g_iload C (gdec dt_X8_scanWord 38 rfl) rfl ?_
    refine g_i2l C (gdec dt_X8_scanWord 39 rfl) ?_
    obtain ⟨q8, hq8, hf⟩ := Option.bind_eq_some_iff.mp hf
    refine g_invV [.int (1 : Int32), .int x1, .long q5.toInt64] [] C (c_X8_addToken l D cA _ (gCi C) w (1 : Int32) x1 q5.toInt64 q8 hq8) kT_X8_addToken kl_X8_82 kim_X8_addToken kse_X8_addToken rfl rfl (i := 0) rfl rfl ⟨by decide, by decide⟩ gk0 (Nat.le_of_ble_eq_true rfl) (gdec dt_X8_scanWord 40 rfl) rfl (st2 := []) rfl ?_
    refine g_goto C (tgt := 89) (gdec dt_X8_scanWord 41 rfl) (by decide) ?_
    refine g_iload_n C (gdec dt_X8_scanWord 54 rfl) (i := 2) rfl rfl ?_
    cases hf
    exact g_iret C rfl (gdec dt_X8_scanWord 55 rfl)
set_option maxHeartbeats 4000000 in
set_option maxRecDepth 100000 in
theorem Lb_X8_scanWord_4 {p : Program} {l : Launch} {e : Env} {s : State} {m : MethodId} {args : Array Value} {below : List Frame} {meth : Method} {c : Code} {D : va_G} {cA ad : Nat → Nat} {q : (Int32 × GW)} (C : gC p c cX8_scanWord meth m s args 6 (some .int) RX8 D cA ad shT) {k4 : Int32 → Int32 → Int64 → GW → Option (Int32 × GW)} (hk4 : ∀ (x1 : Int32) (x2 : Int32) (x3 : Int64) (w : GW), k4 x1 x2 x3 w = some q → gW p l e (gRm 8 671) s m args below meth c D cA ad shT 6 0 0 (gQ below D cA ad shT (some (.int q.1)) q.2 args s) 4 [(0, .ref 0), (1, .int x1), (2, .int x2), (3, .long x3)] [] w) (x1 : Int32) (x2 : Int32) (x3 : Int64) (w : GW) (hf : b_X8_scanWord_4 k4 x1 x2 x3 w = some q) : gW p l e (gRm 8 671) s m args below meth c D cA ad shT 6 0 0 (gQ below D cA ad shT (some (.int q.1)) q.2 args s) 4 [(0, .ref 0), (1, .int x1), (2, .int x2), (3, .long x3)] [] w := by
  unfold b_X8_scanWord_4 at hf
  refine g_iload_n C (gdec dt_X8_scanWord 4 rfl) (i := 2) rfl rfl ?_
  refine g_aload_n C (gdec dt_X8_scanWord 5 rfl) (i := 0) rfl rfl ?_
  refine g_geti C kf_X8_31 rfl rfl (gdec dt_X8_scanWord 6 rfl) ?_
  refine g_icmp_ge C (tgt := 44) (gdec dt_X8_scanWord 7 rfl) (by decide) (fun hc1 => ?_) (fun hc1 => ?_)
  · have hf := (if_pos hc1).symm.trans hf
    refine g_sub [0, 1, 2, 3] (lo2 := [(0, .ref 0), (1, .int x1), (2, .int x2), (3, .long x3)]) rfl ?_
    exact L_X8_scanWord_44 C x1 x2 x3 w hf
  · have hf := (if_neg hc1).symm.trans hf
    refine g_aload_n C (gdec dt_X8_scanWord 8 rfl) (i := 0) rfl rfl ?_
    refine g_iload_n C (gdec dt_X8_scanWord 9 rfl) (i := 2) rfl rfl ?_
    obtain ⟨q2, hq2, hf⟩ := Option.bind_eq_some_iff.mp hf
    refine g_invV [.int x2] [] C (c_X8_isLetter l D cA _ (gCi C) w x2 q2 hq2) kT_X8_isLetter kl_X8_86 kim_X8_isLetter kse_X8_isLetter rfl rfl (i := 0) rfl rfl ⟨by decide, by decide⟩ gk0 (Nat.le_of_ble_eq_true rfl) (gdec dt_X8_scanWord 10 rfl) rfl (st2 := [.int q2]) rfl ?_
    refine g_if_eq C (tgt := 44) (gdec dt_X8_scanWord 11 rfl) (by decide) (fun hc3 => ?_) (fun hc3 => ?_)
    · have hf := (if_pos hc3).symm.trans hf
      refine g_sub [0, 1, 2, 3] (lo2 := [(0, .ref 0), (1, .int x1), (2, .int x2), (3, .long x3)]) rfl ?_
      exact L_X8_scanWord_44 C x1 x2 x3 w hf
    · have hf := (if_neg hc3).symm.trans hf
      refine g_lload_n C (gdec dt_X8_scanWord 12 rfl) (i := 3) rfl rfl ?_
      refine g_ldc2 C kl2_X8_101 (gdec dt_X8_scanWord 13 rfl) ?_
      refine g_lmul C (gdec dt_X8_scanWord 14 rfl) ?_
      refine g_aload_n C (gdec dt_X8_scanWord 15 rfl) (i := 0) rfl rfl ?_
      refine g_iload_n C (gdec dt_X8_scanWord 16 rfl) (i := 2) rfl rfl ?_
      obtain ⟨q4, hq4, hf⟩ := Option.bind_eq_some_iff.mp hf
      refine g_invV [.int x2] [.long (x3 * (32 : Int64))] C (c_X8_byteAt l D cA _ (gCi C) w x2 q4 hq4) kT_X8_byteAt kl_X8_75 kim_X8_byteAt kse_X8_byteAt rfl rfl (i := 0) rfl rfl ⟨by decide, by decide⟩ gk0 (Nat.le_of_ble_eq_true rfl) (gdec dt_X8_scanWord 17 rfl) rfl (st2 := [.int q4, .long (x3 * (32 : Int64))]) rfl ?_
      refine g_bipush C (gdec dt_X8_scanWord 18 rfl) bc_97 ?_
      refine g_isub C (gdec dt_X8_scanWord 19 rfl) ?_
      refine g_iconst C (gdec dt_X8_scanWord 20 rfl) ic_1 ?_
      refine g_iadd C (gdec dt_X8_scanWord 21 rfl) ?_
      refine g_i2l C (gdec dt_X8_scanWord 22 rfl) ?_
      refine g_ladd C (gdec dt_X8_scanWord 23 rfl) ?_
      refine g_lstore_n C (gdec dt_X8_scanWord 24 rfl) (i := 3) rfl (by decide) (lo2 := [(3, .long ((x3 * (32 : Int64)) + ((q4 - (97 : Int32)) + (1 : Int32)).toInt64)), (0, .ref 0), (1, .int x1), (2, .int x2)]) rfl ?_
      refine g_iinc C (gdec dt_X8_scanWord 25 rfl) (kk := 3) rfl (v := (x2 + (1 : Int32))) rfl (by decide) (lo2 := [(2, .int (x2 + (1 : Int32))), (3, .long ((x3 * (32 : Int64)) + ((q4 - (97 : Int32)) + (1 : Int32)).toInt64)), (0, .ref 0), (1, .int x1)]) rfl ?_
      refine g_goto C (tgt := 4) (gdec dt_X8_scanWord 26 rfl) (by decide) ?_
      refine g_sub [2, 3, 0, 1] (lo2 := [(0, .ref 0), (1, .int x1), (2, .int (x2 + (1 : Int32))), (3, .long ((x3 * (32 : Int64)) + ((q4 - (97 : Int32)) + (1 : Int32)).toInt64))]) rfl ?_
      exact hk4 x1 (x2 + (1 : Int32)) ((x3 * (32 : Int64)) + ((q4 - (97 : Int32)) + (1 : Int32)).toInt64) w hf
theorem L_X8_scanWord_4 {p : Program} {l : Launch} {e : Env} {s : State} {m : MethodId} {args : Array Value} {below : List Frame} {meth : Method} {c : Code} {D : va_G} {cA ad : Nat → Nat} {q : (Int32 × GW)} (C : gC p c cX8_scanWord meth m s args 6 (some .int) RX8 D cA ad shT) : ∀ (n : Nat) (x1 : Int32) (x2 : Int32) (x3 : Int64) (w : GW), f_X8_scanWord_4 n x1 x2 x3 w = some q → gW p l e (gRm 8 671) s m args below meth c D cA ad shT 6 0 0 (gQ below D cA ad shT (some (.int q.1)) q.2 args s) 4 [(0, .ref 0), (1, .int x1), (2, .int x2), (3, .long x3)] [] w := by
  intro n
  induction n with
  | zero => intro _ _ _ _ hf; cases hf
  | succ n ih => intro x1 x2 x3 w hf; exact Lb_X8_scanWord_4 C ih x1 x2 x3 w hf
set_option maxHeartbeats 4000000 in
set_option maxRecDepth 100000 in
theorem c_X8_scanWord (l : Launch) (D : va_G) (cA ad : Nat → Nat) (hin : gInj ad shT.length) (w : GW) (x1 : Int32) (q : (Int32 × GW)) (hf : F_X8_scanWord x1 w = some q) : gMet l yX8_scanWord cX8_scanWord 6 (some .int) 8 671 D cA ad shT [.ref 0, .int x1] w (some (.int q.1)) q.2 := by
  refine g_entry (by decide) hin (Nat.le_of_ble_eq_true rfl) ?_
  intro p e s m args below meth c C
  unfold F_X8_scanWord at hf
  show gW p l e (gRm 8 671) s m args below meth c D cA ad shT 6 0 0 (gQ below D cA ad shT (some (.int q.1)) q.2 args s) 0 [(0, .ref 0), (1, .int x1)] [] w
  refine g_iload_n C (gdec dt_X8_scanWord 0 rfl) (i := 1) rfl rfl ?_
  refine g_istore_n C (gdec dt_X8_scanWord 1 rfl) (i := 2) rfl (by decide) (lo2 := [(2, .int x1), (0, .ref 0), (1, .int x1)]) rfl ?_
  refine g_lconst C (gdec dt_X8_scanWord 2 rfl) lc_0 ?_
  refine g_lstore_n C (gdec dt_X8_scanWord 3 rfl) (i := 3) rfl (by decide) (lo2 := [(3, .long (0 : Int64)), (2, .int x1), (0, .ref 0), (1, .int x1)]) rfl ?_
  refine g_sub [2, 3, 1, 0] (lo2 := [(0, .ref 0), (1, .int x1), (2, .int x1), (3, .long (0 : Int64))]) rfl ?_
  exact L_X8_scanWord_4 C FU x1 x1 (0 : Int64) w hf
set_option maxHeartbeats 4000000 in
set_option maxRecDepth 100000 in
theorem c_X8_isDigit (l : Launch) (D : va_G) (cA ad : Nat → Nat) (hin : gInj ad shT.length) (w : GW) (x1 : Int32) (q : Int32) (hf : F_X8_isDigit w x1 = some q) : gMet l yX8_isDigit cX8_isDigit 2 (some .boolean) 2 141 D cA ad shT [.ref 0, .int x1] w (some (.int q)) w := by
  refine g_entry (by decide) hin (Nat.le_of_ble_eq_true rfl) ?_
  intro p e s m args below meth c C
  unfold F_X8_isDigit at hf
  show gW p l e (gRm 2 141) s m args below meth c D cA ad shT 2 0 0 (gQ below D cA ad shT (some (.int q)) w args s) 0 [(0, .ref 0), (1, .int x1)] [] w
  refine g_aload_n C (gdec dt_X8_isDigit 0 rfl) (i := 0) rfl rfl ?_
  refine g_iload_n C (gdec dt_X8_isDigit 1 rfl) (i := 1) rfl rfl ?_
  obtain ⟨q1, hq1, hf⟩ := Option.bind_eq_some_iff.mp hf
  refine g_invV [.int x1] [] C (c_X8_byteAt l D cA _ (gCi C) w x1 q1 hq1) kT_X8_byteAt kl_X8_75 kim_X8_byteAt kse_X8_byteAt rfl rfl (i := 0) rfl rfl ⟨by decide, by decide⟩ gk0 (Nat.le_of_ble_eq_true rfl) (gdec dt_X8_isDigit 2 rfl) rfl (st2 := [.int q1]) rfl ?_
  refine g_bipush C (gdec dt_X8_isDigit 3 rfl) bc_48 ?_
  refine g_icmp_lt C (tgt := 24) (gdec dt_X8_isDigit 4 rfl) (by decide) (fun hc2 => ?_) (fun hc2 => ?_)
  · have hf := (if_pos hc2).symm.trans hf
    refine g_iconst C (gdec dt_X8_isDigit 12 rfl) ic_0 ?_
    cases hf
    exact g_zret C (Or.inl rfl) rfl (gdec dt_X8_isDigit 13 rfl)
  · have hf := (if_neg hc2).symm.trans hf
    refine g_aload_n C (gdec dt_X8_isDigit 5 rfl) (i := 0) rfl rfl ?_
    refine g_iload_n C (gdec dt_X8_isDigit 6 rfl) (i := 1) rfl rfl ?_
    obtain ⟨q3, hq3, hf⟩ := Option.bind_eq_some_iff.mp hf
    refine g_invV [.int x1] [] C (c_X8_byteAt l D cA _ (gCi C) w x1 q3 hq3) kT_X8_byteAt kl_X8_75 kim_X8_byteAt kse_X8_byteAt rfl rfl (i := 0) rfl rfl ⟨by decide, by decide⟩ gk0 (Nat.le_of_ble_eq_true rfl) (gdec dt_X8_isDigit 7 rfl) rfl (st2 := [.int q3]) rfl ?_
    refine g_bipush C (gdec dt_X8_isDigit 8 rfl) bc_57 ?_
    refine g_icmp_gt C (tgt := 24) (gdec dt_X8_isDigit 9 rfl) (by decide) (fun hc4 => ?_) (fun hc4 => ?_)
    · have hf := (if_pos hc4).symm.trans hf
      refine g_iconst C (gdec dt_X8_isDigit 12 rfl) ic_0 ?_
      cases hf
      exact g_zret C (Or.inl rfl) rfl (gdec dt_X8_isDigit 13 rfl)
    · have hf := (if_neg hc4).symm.trans hf
      refine g_iconst C (gdec dt_X8_isDigit 10 rfl) ic_1 ?_
      refine g_goto C (tgt := 25) (gdec dt_X8_isDigit 11 rfl) (by decide) ?_
      cases hf
      exact g_zret C (Or.inr rfl) rfl (gdec dt_X8_isDigit 13 rfl)
set_option maxHeartbeats 4000000 in
set_option maxRecDepth 100000 in
theorem L_X8_scanNumber_56 {p : Program} {l : Launch} {e : Env} {s : State} {m : MethodId} {args : Array Value} {below : List Frame} {meth : Method} {c : Code} {D : va_G} {cA ad : Nat → Nat} {q : (Int32 × GW)} (C : gC p c cX8_scanNumber meth m s args 5 (some .int) RX8 D cA ad shT) (x1 : Int32) (x2 : Int32) (x3 : Int64) (s0 : Int32) (w : GW) (hf : f_X8_scanNumber_56 x1 x2 x3 s0 w = some q) : gW p l e (gRm 3 162) s m args below meth c D cA ad shT 5 0 0 (gQ below D cA ad shT (some (.int q.1)) q.2 args s) 56 [(1, .int x1), (2, .int x2), (3, .long x3)] [.int s0, .ref 0] w := by
  unfold f_X8_scanNumber_56 at hf
  refine g_iload_n C (gdec dt_X8_scanNumber 34 rfl) (i := 1) rfl rfl ?_
  refine g_lload_n C (gdec dt_X8_scanNumber 35 rfl) (i := 3) rfl rfl ?_
  obtain ⟨q6, hq6, hf⟩ := Option.bind_eq_some_iff.mp hf
  refine g_invV [.int s0, .int x1, .long x3] [] C (c_X8_addToken l D cA _ (gCi C) w s0 x1 x3 q6 hq6) kT_X8_addToken kl_X8_82 kim_X8_addToken kse_X8_addToken rfl rfl (i := 0) rfl rfl ⟨by decide, by decide⟩ gk0 (Nat.le_of_ble_eq_true rfl) (gdec dt_X8_scanNumber 36 rfl) rfl (st2 := []) rfl ?_
  refine g_iload_n C (gdec dt_X8_scanNumber 37 rfl) (i := 2) rfl rfl ?_
  cases hf
  exact g_iret C rfl (gdec dt_X8_scanNumber 38 rfl)
set_option maxHeartbeats 4000000 in
set_option maxRecDepth 100000 in
theorem L_X8_scanNumber_42 {p : Program} {l : Launch} {e : Env} {s : State} {m : MethodId} {args : Array Value} {below : List Frame} {meth : Method} {c : Code} {D : va_G} {cA ad : Nat → Nat} {q : (Int32 × GW)} (C : gC p c cX8_scanNumber meth m s args 5 (some .int) RX8 D cA ad shT) (x1 : Int32) (x2 : Int32) (x3 : Int64) (w : GW) (hf : f_X8_scanNumber_42 x1 x2 x3 w = some q) : gW p l e (gRm 3 162) s m args below meth c D cA ad shT 5 0 0 (gQ below D cA ad shT (some (.int q.1)) q.2 args s) 42 [(0, .ref 0), (1, .int x1), (2, .int x2), (3, .long x3)] [] w := by
  unfold f_X8_scanNumber_42 at hf
  refine g_aload_n C (gdec dt_X8_scanNumber 25 rfl) (i := 0) rfl rfl ?_
  refine g_iload_n C (gdec dt_X8_scanNumber 26 rfl) (i := 2) rfl rfl ?_
  refine g_iload_n C (gdec dt_X8_scanNumber 27 rfl) (i := 1) rfl rfl ?_
  refine g_isub C (gdec dt_X8_scanNumber 28 rfl) ?_
  refine g_iconst C (gdec dt_X8_scanNumber 29 rfl) ic_4 ?_
  refine g_icmp_gt C (tgt := 54) (gdec dt_X8_scanNumber 30 rfl) (by decide) (fun hc5 => ?_) (fun hc5 => ?_)
  · have hf := (if_pos hc5).symm.trans hf
    refine g_bipush C (gdec dt_X8_scanNumber 33 rfl) bc_6 ?_
    refine g_sub [1, 2, 3] (lo2 := [(1, .int x1), (2, .int x2), (3, .long x3)]) rfl ?_
    exact L_X8_scanNumber_56 C x1 x2 x3 (6 : Int32) w hf
  · have hf := (if_neg hc5).symm.trans hf
    refine g_iconst C (gdec dt_X8_scanNumber 31 rfl) ic_3 ?_
    refine g_goto C (tgt := 56) (gdec dt_X8_scanNumber 32 rfl) (by decide) ?_
    refine g_sub [1, 2, 3] (lo2 := [(1, .int x1), (2, .int x2), (3, .long x3)]) rfl ?_
    exact L_X8_scanNumber_56 C x1 x2 x3 (3 : Int32) w hf
set_option maxHeartbeats 4000000 in
set_option maxRecDepth 100000 in
theorem Lb_X8_scanNumber_4 {p : Program} {l : Launch} {e : Env} {s : State} {m : MethodId} {args : Array Value} {below : List Frame} {meth : Method} {c : Code} {D : va_G} {cA ad : Nat → Nat} {q : (Int32 × GW)} (C : gC p c cX8_scanNumber meth m s args 5 (some .int) RX8 D cA ad shT) {k4 : Int32 → Int32 → Int64 → GW → Option (Int32 × GW)} (hk4 : ∀ (x1 : Int32) (x2 : Int32) (x3 : Int64) (w : GW), k4 x1 x2 x3 w = some q → gW p l e (gRm 3 162) s m args below meth c D cA ad shT 5 0 0 (gQ below D cA ad shT (some (.int q.1)) q.2 args s) 4 [(0, .ref 0), (1, .int x1), (2, .int x2), (3, .long x3)] [] w) (x1 : Int32) (x2 : Int32) (x3 : Int64) (w : GW) (hf : b_X8_scanNumber_4 k4 x1 x2 x3 w = some q) : gW p l e (gRm 3 162) s m args below meth c D cA ad shT 5 0 0 (gQ below D cA ad shT (some (.int q.1)) q.2 args s) 4 [(0, .ref 0), (1, .int x1), (2, .int x2), (3, .long x3)] [] w := by
  unfold b_X8_scanNumber_4 at hf
  refine g_iload_n C (gdec dt_X8_scanNumber 4 rfl) (i := 2) rfl rfl ?_
  refine g_aload_n C (gdec dt_X8_scanNumber 5 rfl) (i := 0) rfl rfl ?_
  refine g_geti C kf_X8_31 rfl rfl (gdec dt_X8_scanNumber 6 rfl) ?_
  refine g_icmp_ge C (tgt := 42) (gdec dt_X8_scanNumber 7 rfl) (by decide) (fun hc1 => ?_) (fun hc1 => ?_)
  · have hf := (if_pos hc1).symm.trans hf
    refine g_sub [0, 1, 2, 3] (lo2 := [(0, .ref 0), (1, .int x1), (2, .int x2), (3, .long x3)]) rfl ?_
    exact L_X8_scanNumber_42 C x1 x2 x3 w hf
  · have hf := (if_neg hc1).symm.trans hf
    refine g_aload_n C (gdec dt_X8_scanNumber 8 rfl) (i := 0) rfl rfl ?_
    refine g_iload_n C (gdec dt_X8_scanNumber 9 rfl) (i := 2) rfl rfl ?_
    obtain ⟨q2, hq2, hf⟩ := Option.bind_eq_some_iff.mp hf
    refine g_invV [.int x2] [] C (c_X8_isDigit l D cA _ (gCi C) w x2 q2 hq2) kT_X8_isDigit kl_X8_92 kim_X8_isDigit kse_X8_isDigit rfl rfl (i := 0) rfl rfl ⟨by decide, by decide⟩ gk0 (Nat.le_of_ble_eq_true rfl) (gdec dt_X8_scanNumber 10 rfl) rfl (st2 := [.int q2]) rfl ?_
    refine g_if_eq C (tgt := 42) (gdec dt_X8_scanNumber 11 rfl) (by decide) (fun hc3 => ?_) (fun hc3 => ?_)
    · have hf := (if_pos hc3).symm.trans hf
      refine g_sub [0, 1, 2, 3] (lo2 := [(0, .ref 0), (1, .int x1), (2, .int x2), (3, .long x3)]) rfl ?_
      exact L_X8_scanNumber_42 C x1 x2 x3 w hf
    · have hf := (if_neg hc3).symm.trans hf
      refine g_lload_n C (gdec dt_X8_scanNumber 12 rfl) (i := 3) rfl rfl ?_
      refine g_ldc2 C kl2_X8_107 (gdec dt_X8_scanNumber 13 rfl) ?_
      refine g_lmul C (gdec dt_X8_scanNumber 14 rfl) ?_
      refine g_aload_n C (gdec dt_X8_scanNumber 15 rfl) (i := 0) rfl rfl ?_
      refine g_iload_n C (gdec dt_X8_scanNumber 16 rfl) (i := 2) rfl rfl ?_
      obtain ⟨q4, hq4, hf⟩ := Option.bind_eq_some_iff.mp hf
      refine g_invV [.int x2] [.long (x3 * (10 : Int64))] C (c_X8_byteAt l D cA _ (gCi C) w x2 q4 hq4) kT_X8_byteAt kl_X8_75 kim_X8_byteAt kse_X8_byteAt rfl rfl (i := 0) rfl rfl ⟨by decide, by decide⟩ gk0 (Nat.le_of_ble_eq_true rfl) (gdec dt_X8_scanNumber 17 rfl) rfl (st2 := [.int q4, .long (x3 * (10 : Int64))]) rfl ?_
      refine g_bipush C (gdec dt_X8_scanNumber 18 rfl) bc_48 ?_
      refine g_isub C (gdec dt_X8_scanNumber 19 rfl) ?_
      refine g_i2l C (gdec dt_X8_scanNumber 20 rfl) ?_
      refine g_ladd C (gdec dt_X8_scanNumber 21 rfl) ?_
      refine g_lstore_n C (gdec dt_X8_scanNumber 22 rfl) (i := 3) rfl (by decide) (lo2 := [(3, .long ((x3 * (10 : Int64)) + (q4 - (48 : Int32)).toInt64)), (0, .ref 0), (1, .int x1), (2, .int x2)]) rfl ?_
      refine g_iinc C (gdec dt_X8_scanNumber 23 rfl) (kk := 3) rfl (v := (x2 + (1 : Int32))) rfl (by decide) (lo2 := [(2, .int (x2 + (1 : Int32))), (3, .long ((x3 * (10 : Int64)) + (q4 - (48 : Int32)).toInt64)), (0, .ref 0), (1, .int x1)]) rfl ?_
      refine g_goto C (tgt := 4) (gdec dt_X8_scanNumber 24 rfl) (by decide) ?_
      refine g_sub [2, 3, 0, 1] (lo2 := [(0, .ref 0), (1, .int x1), (2, .int (x2 + (1 : Int32))), (3, .long ((x3 * (10 : Int64)) + (q4 - (48 : Int32)).toInt64))]) rfl ?_
      exact hk4 x1 (x2 + (1 : Int32)) ((x3 * (10 : Int64)) + (q4 - (48 : Int32)).toInt64) w hf
theorem L_X8_scanNumber_4 {p : Program} {l : Launch} {e : Env} {s : State} {m : MethodId} {args : Array Value} {below : List Frame} {meth : Method} {c : Code} {D : va_G} {cA ad : Nat → Nat} {q : (Int32 × GW)} (C : gC p c cX8_scanNumber meth m s args 5 (some .int) RX8 D cA ad shT) : ∀ (n : Nat) (x1 : Int32) (x2 : Int32) (x3 : Int64) (w : GW), f_X8_scanNumber_4 n x1 x2 x3 w = some q → gW p l e (gRm 3 162) s m args below meth c D cA ad shT 5 0 0 (gQ below D cA ad shT (some (.int q.1)) q.2 args s) 4 [(0, .ref 0), (1, .int x1), (2, .int x2), (3, .long x3)] [] w := by
  intro n
  induction n with
  | zero => intro _ _ _ _ hf; cases hf
  | succ n ih => intro x1 x2 x3 w hf; exact Lb_X8_scanNumber_4 C ih x1 x2 x3 w hf
set_option maxHeartbeats 4000000 in
set_option maxRecDepth 100000 in
theorem c_X8_scanNumber (l : Launch) (D : va_G) (cA ad : Nat → Nat) (hin : gInj ad shT.length) (w : GW) (x1 : Int32) (q : (Int32 × GW)) (hf : F_X8_scanNumber x1 w = some q) : gMet l yX8_scanNumber cX8_scanNumber 5 (some .int) 3 162 D cA ad shT [.ref 0, .int x1] w (some (.int q.1)) q.2 := by
  refine g_entry (by decide) hin (Nat.le_of_ble_eq_true rfl) ?_
  intro p e s m args below meth c C
  unfold F_X8_scanNumber at hf
  show gW p l e (gRm 3 162) s m args below meth c D cA ad shT 5 0 0 (gQ below D cA ad shT (some (.int q.1)) q.2 args s) 0 [(0, .ref 0), (1, .int x1)] [] w
  refine g_iload_n C (gdec dt_X8_scanNumber 0 rfl) (i := 1) rfl rfl ?_
  refine g_istore_n C (gdec dt_X8_scanNumber 1 rfl) (i := 2) rfl (by decide) (lo2 := [(2, .int x1), (0, .ref 0), (1, .int x1)]) rfl ?_
  refine g_lconst C (gdec dt_X8_scanNumber 2 rfl) lc_0 ?_
  refine g_lstore_n C (gdec dt_X8_scanNumber 3 rfl) (i := 3) rfl (by decide) (lo2 := [(3, .long (0 : Int64)), (2, .int x1), (0, .ref 0), (1, .int x1)]) rfl ?_
  refine g_sub [2, 3, 1, 0] (lo2 := [(0, .ref 0), (1, .int x1), (2, .int x1), (3, .long (0 : Int64))]) rfl ?_
  exact L_X8_scanNumber_4 C FU x1 x1 (0 : Int64) w hf
set_option maxHeartbeats 4000000 in
set_option maxRecDepth 100000 in
theorem c_X8_isSignAt (l : Launch) (D : va_G) (cA ad : Nat → Nat) (hin : gInj ad shT.length) (w : GW) (x1 : Int32) (q : Int32) (hf : F_X8_isSignAt w x1 = some q) : gMet l yX8_isSignAt cX8_isSignAt 3 (some .boolean) 2 141 D cA ad shT [.ref 0, .int x1] w (some (.int q)) w := by
  refine g_entry (by decide) hin (Nat.le_of_ble_eq_true rfl) ?_
  intro p e s m args below meth c C
  unfold F_X8_isSignAt at hf
  show gW p l e (gRm 2 141) s m args below meth c D cA ad shT 3 0 0 (gQ below D cA ad shT (some (.int q)) w args s) 0 [(0, .ref 0), (1, .int x1)] [] w
  refine g_aload_n C (gdec dt_X8_isSignAt 0 rfl) (i := 0) rfl rfl ?_
  refine g_iload_n C (gdec dt_X8_isSignAt 1 rfl) (i := 1) rfl rfl ?_
  obtain ⟨q1, hq1, hf⟩ := Option.bind_eq_some_iff.mp hf
  refine g_invV [.int x1] [] C (c_X8_byteAt l D cA _ (gCi C) w x1 q1 hq1) kT_X8_byteAt kl_X8_75 kim_X8_byteAt kse_X8_byteAt rfl rfl (i := 0) rfl rfl ⟨by decide, by decide⟩ gk0 (Nat.le_of_ble_eq_true rfl) (gdec dt_X8_isSignAt 2 rfl) rfl (st2 := [.int q1]) rfl ?_
  refine g_istore_n C (gdec dt_X8_isSignAt 3 rfl) (i := 2) rfl (by decide) (lo2 := [(2, .int q1), (0, .ref 0), (1, .int x1)]) rfl ?_
  refine g_iload_n C (gdec dt_X8_isSignAt 4 rfl) (i := 2) rfl rfl ?_
  refine g_bipush C (gdec dt_X8_isSignAt 5 rfl) bc_59 ?_
  refine g_icmp_eq C (tgt := 30) (gdec dt_X8_isSignAt 6 rfl) (by decide) (fun hc2 => ?_) (fun hc2 => ?_)
  · have hf := (if_pos hc2).symm.trans hf
    refine g_iconst C (gdec dt_X8_isSignAt 16 rfl) ic_1 ?_
    refine g_goto C (tgt := 35) (gdec dt_X8_isSignAt 17 rfl) (by decide) ?_
    cases hf
    exact g_zret C (Or.inr rfl) rfl (gdec dt_X8_isSignAt 19 rfl)
  · have hf := (if_neg hc2).symm.trans hf
    refine g_iload_n C (gdec dt_X8_isSignAt 7 rfl) (i := 2) rfl rfl ?_
    refine g_bipush C (gdec dt_X8_isSignAt 8 rfl) bc_60 ?_
    refine g_icmp_eq C (tgt := 30) (gdec dt_X8_isSignAt 9 rfl) (by decide) (fun hc3 => ?_) (fun hc3 => ?_)
    · have hf := (if_pos hc3).symm.trans hf
      refine g_iconst C (gdec dt_X8_isSignAt 16 rfl) ic_1 ?_
      refine g_goto C (tgt := 35) (gdec dt_X8_isSignAt 17 rfl) (by decide) ?_
      cases hf
      exact g_zret C (Or.inr rfl) rfl (gdec dt_X8_isSignAt 19 rfl)
    · have hf := (if_neg hc3).symm.trans hf
      refine g_iload_n C (gdec dt_X8_isSignAt 10 rfl) (i := 2) rfl rfl ?_
      refine g_bipush C (gdec dt_X8_isSignAt 11 rfl) bc_62 ?_
      refine g_icmp_eq C (tgt := 30) (gdec dt_X8_isSignAt 12 rfl) (by decide) (fun hc4 => ?_) (fun hc4 => ?_)
      · have hf := (if_pos hc4).symm.trans hf
        refine g_iconst C (gdec dt_X8_isSignAt 16 rfl) ic_1 ?_
        refine g_goto C (tgt := 35) (gdec dt_X8_isSignAt 17 rfl) (by decide) ?_
        cases hf
        exact g_zret C (Or.inr rfl) rfl (gdec dt_X8_isSignAt 19 rfl)
      · have hf := (if_neg hc4).symm.trans hf
        refine g_iload_n C (gdec dt_X8_isSignAt 13 rfl) (i := 2) rfl rfl ?_
        refine g_bipush C (gdec dt_X8_isSignAt 14 rfl) bc_61 ?_
        refine g_icmp_ne C (tgt := 34) (gdec dt_X8_isSignAt 15 rfl) (by decide) (fun hc5 => ?_) (fun hc5 => ?_)
        · have hf := (if_neg hc5).symm.trans hf
          refine g_iconst C (gdec dt_X8_isSignAt 18 rfl) ic_0 ?_
          cases hf
          exact g_zret C (Or.inl rfl) rfl (gdec dt_X8_isSignAt 19 rfl)
        · have hf := (if_pos hc5).symm.trans hf
          refine g_iconst C (gdec dt_X8_isSignAt 16 rfl) ic_1 ?_
          refine g_goto C (tgt := 35) (gdec dt_X8_isSignAt 17 rfl) (by decide) ?_
          cases hf
          exact g_zret C (Or.inr rfl) rfl (gdec dt_X8_isSignAt 19 rfl)
set_option maxHeartbeats 4000000 in
set_option maxRecDepth 100000 in
theorem L_X8_scanToken_87 {p : Program} {l : Launch} {e : Env} {s : State} {m : MethodId} {args : Array Value} {below : List Frame} {meth : Method} {c : Code} {D : va_G} {cA ad : Nat → Nat} {q : (Int32 × GW)} (C : gC p c cX8_scanToken meth m s args 3 (some .int) RX8 D cA ad shT) (x2 : Int32) (s0 : Int32) (w : GW) (hf : f_X8_scanToken_87 x2 s0 w = some q) : gW p l e (gRm 9 696) s m args below meth c D cA ad shT 3 0 0 (gQ below D cA ad shT (some (.int q.1)) q.2 args s) 87 [(0, .ref 0), (2, .int x2)] [.int s0, .ref 0] w := by
  unfold f_X8_scanToken_87 at hf
  refine g_iload_n C (gdec dt_X8_scanToken 48 rfl) (i := 2) rfl rfl ?_
  refine g_aload_n C (gdec dt_X8_scanToken 49 rfl) (i := 0) rfl rfl ?_
  refine g_iload_n C (gdec dt_X8_scanToken 50 rfl) (i := 2) rfl rfl ?_
  obtain ⟨q14, hq14, hf⟩ := Option.bind_eq_some_iff.mp hf
  refine g_invV [.int x2] [.int x2, .int s0, .ref 0] C (c_X8_byteAt l D cA _ (gCi C) w x2 q14 hq14) kT_X8_byteAt kl_X8_75 kim_X8_byteAt kse_X8_byteAt rfl rfl (i := 0) rfl rfl ⟨by decide, by decide⟩ gk0 (Nat.le_of_ble_eq_true rfl) (gdec dt_X8_scanToken 51 rfl) rfl (st2 := [.int q14, .int x2, .int s0, .ref 0]) rfl ?_
  refine g_i2l C (gdec dt_X8_scanToken 52 rfl) ?_
  obtain ⟨q15, hq15, hf⟩ := Option.bind_eq_some_iff.mp hf
  refine g_invV [.int s0, .int x2, .long q14.toInt64] [] C (c_X8_addToken l D cA _ (gCi C) w s0 x2 q14.toInt64 q15 hq15) kT_X8_addToken kl_X8_82 kim_X8_addToken kse_X8_addToken rfl rfl (i := 0) rfl rfl ⟨by decide, by decide⟩ gk0 (Nat.le_of_ble_eq_true rfl) (gdec dt_X8_scanToken 53 rfl) rfl (st2 := []) rfl ?_
  refine g_iload_n C (gdec dt_X8_scanToken 54 rfl) (i := 2) rfl rfl ?_
  refine g_iconst C (gdec dt_X8_scanToken 55 rfl) ic_1 ?_
  refine g_iadd C (gdec dt_X8_scanToken 56 rfl) ?_
  cases hf
  exact g_iret C rfl (gdec dt_X8_scanToken 57 rfl)
set_option maxHeartbeats 4000000 in
set_option maxRecDepth 100000 in
theorem L_X8_scanToken_24 {p : Program} {l : Launch} {e : Env} {s : State} {m : MethodId} {args : Array Value} {below : List Frame} {meth : Method} {c : Code} {D : va_G} {cA ad : Nat → Nat} {q : (Int32 × GW)} (C : gC p c cX8_scanToken meth m s args 3 (some .int) RX8 D cA ad shT) (x2 : Int32) (w : GW) (hf : f_X8_scanToken_24 x2 w = some q) : gW p l e (gRm 9 696) s m args below meth c D cA ad shT 3 0 0 (gQ below D cA ad shT (some (.int q.1)) q.2 args s) 24 [(0, .ref 0), (2, .int x2)] [] w := by
  unfold f_X8_scanToken_24 at hf
  refine g_iload_n C (gdec dt_X8_scanToken 12 rfl) (i := 2) rfl rfl ?_
  refine g_aload_n C (gdec dt_X8_scanToken 13 rfl) (i := 0) rfl rfl ?_
  refine g_geti C kf_X8_31 rfl rfl (gdec dt_X8_scanToken 14 rfl) ?_
  refine g_icmp_lt C (tgt := 44) (gdec dt_X8_scanToken 15 rfl) (by decide) (fun hc4 => ?_) (fun hc4 => ?_)
  · have hf := (if_pos hc4).symm.trans hf
    refine g_aload_n C (gdec dt_X8_scanToken 24 rfl) (i := 0) rfl rfl ?_
    refine g_iload_n C (gdec dt_X8_scanToken 25 rfl) (i := 2) rfl rfl ?_
    obtain ⟨q5, hq5, hf⟩ := Option.bind_eq_some_iff.mp hf
    refine g_invV [.int x2] [] C (c_X8_isLetter l D cA _ (gCi C) w x2 q5 hq5) kT_X8_isLetter kl_X8_86 kim_X8_isLetter kse_X8_isLetter rfl rfl (i := 0) rfl rfl ⟨by decide, by decide⟩ gk0 (Nat.le_of_ble_eq_true rfl) (gdec dt_X8_scanToken 26 rfl) rfl (st2 := [.int q5]) rfl ?_
    refine g_if_eq C (tgt := 58) (gdec dt_X8_scanToken 27 rfl) (by decide) (fun hc6 => ?_) (fun hc6 => ?_)
    · have hf := (if_pos hc6).symm.trans hf
      refine g_aload_n C (gdec dt_X8_scanToken 32 rfl) (i := 0) rfl rfl ?_
      refine g_iload_n C (gdec dt_X8_scanToken 33 rfl) (i := 2) rfl rfl ?_
      obtain ⟨q7, hq7, hf⟩ := Option.bind_eq_some_iff.mp hf
      refine g_invV [.int x2] [] C (c_X8_isDigit l D cA _ (gCi C) w x2 q7 hq7) kT_X8_isDigit kl_X8_92 kim_X8_isDigit kse_X8_isDigit rfl rfl (i := 0) rfl rfl ⟨by decide, by decide⟩ gk0 (Nat.le_of_ble_eq_true rfl) (gdec dt_X8_scanToken 34 rfl) rfl (st2 := [.int q7]) rfl ?_
      refine g_if_eq C (tgt := 72) (gdec dt_X8_scanToken 35 rfl) (by decide) (fun hc8 => ?_) (fun hc8 => ?_)
      · have hf := (if_pos hc8).symm.trans hf
        refine g_aload_n C (gdec dt_X8_scanToken 40 rfl) (i := 0) rfl rfl ?_
        refine g_aload_n C (gdec dt_X8_scanToken 41 rfl) (i := 0) rfl rfl ?_
        refine g_iload_n C (gdec dt_X8_scanToken 42 rfl) (i := 2) rfl rfl ?_
        obtain ⟨q9, hq9, hf⟩ := Option.bind_eq_some_iff.mp hf
        refine g_invV [.int x2] [.ref 0] C (c_X8_isSignAt l D cA _ (gCi C) w x2 q9 hq9) kT_X8_isSignAt kl_X8_98 kim_X8_isSignAt kse_X8_isSignAt rfl rfl (i := 0) rfl rfl ⟨by decide, by decide⟩ gk0 (Nat.le_of_ble_eq_true rfl) (gdec dt_X8_scanToken 43 rfl) rfl (st2 := [.int q9, .ref 0]) rfl ?_
        refine g_if_eq C (tgt := 85) (gdec dt_X8_scanToken 44 rfl) (by decide) (fun hc10 => ?_) (fun hc10 => ?_)
        · have hf := (if_pos hc10).symm.trans hf
          refine g_bipush C (gdec dt_X8_scanToken 47 rfl) bc_6 ?_
          refine g_sub [0, 1] (lo2 := [(0, .ref 0), (2, .int x2)]) rfl ?_
          exact L_X8_scanToken_87 C x2 (6 : Int32) w hf
        · have hf := (if_neg hc10).symm.trans hf
          refine g_iconst C (gdec dt_X8_scanToken 45 rfl) ic_4 ?_
          refine g_goto C (tgt := 87) (gdec dt_X8_scanToken 46 rfl) (by decide) ?_
          refine g_sub [0, 1] (lo2 := [(0, .ref 0), (2, .int x2)]) rfl ?_
          exact L_X8_scanToken_87 C x2 (4 : Int32) w hf
      · have hf := (if_neg hc8).symm.trans hf
        refine g_aload_n C (gdec dt_X8_scanToken 36 rfl) (i := 0) rfl rfl ?_
        refine g_iload_n C (gdec dt_X8_scanToken 37 rfl) (i := 2) rfl rfl ?_
        obtain ⟨q11, hq11, hf⟩ := Option.bind_eq_some_iff.mp hf
        refine g_invV [.int x2] [] C (c_X8_scanNumber l D cA _ (gCi C) w x2 q11 hq11) kT_X8_scanNumber kl_X8_95 kim_X8_scanNumber kse_X8_scanNumber rfl rfl (i := 0) rfl rfl ⟨by decide, by decide⟩ gk0 (Nat.le_of_ble_eq_true rfl) (gdec dt_X8_scanToken 38 rfl) rfl (st2 := [.int q11.1]) rfl ?_
        cases hf
        exact g_iret C rfl (gdec dt_X8_scanToken 39 rfl)
    · have hf := (if_neg hc6).symm.trans hf
      refine g_aload_n C (gdec dt_X8_scanToken 28 rfl) (i := 0) rfl rfl ?_
      refine g_iload_n C (gdec dt_X8_scanToken 29 rfl) (i := 2) rfl rfl ?_
      obtain ⟨q12, hq12, hf⟩ := Option.bind_eq_some_iff.mp hf
      refine g_invV [.int x2] [] C (c_X8_scanWord l D cA _ (gCi C) w x2 q12 hq12) kT_X8_scanWord kl_X8_89 kim_X8_scanWord kse_X8_scanWord rfl rfl (i := 0) rfl rfl ⟨by decide, by decide⟩ gk0 (Nat.le_of_ble_eq_true rfl) (gdec dt_X8_scanToken 30 rfl) rfl (st2 := [.int q12.1]) rfl ?_
      cases hf
      exact g_iret C rfl (gdec dt_X8_scanToken 31 rfl)
  · have hf := (if_neg hc4).symm.trans hf
    refine g_aload_n C (gdec dt_X8_scanToken 16 rfl) (i := 0) rfl rfl ?_
    refine g_iconst C (gdec dt_X8_scanToken 17 rfl) ic_0 ?_
    refine g_aload_n C (gdec dt_X8_scanToken 18 rfl) (i := 0) rfl rfl ?_
    refine g_geti C kf_X8_31 rfl rfl (gdec dt_X8_scanToken 19 rfl) ?_
    refine g_lconst C (gdec dt_X8_scanToken 20 rfl) lc_0 ?_
    obtain ⟨q13, hq13, hf⟩ := Option.bind_eq_some_iff.mp hf
    refine g_invV [.int (0 : Int32), .int (w.1 0 6), .long (0 : Int64)] [] C (c_X8_addToken l D cA _ (gCi C) w (0 : Int32) (w.1 0 6) (0 : Int64) q13 hq13) kT_X8_addToken kl_X8_82 kim_X8_addToken kse_X8_addToken rfl rfl (i := 0) rfl rfl ⟨by decide, by decide⟩ gk0 (Nat.le_of_ble_eq_true rfl) (gdec dt_X8_scanToken 21 rfl) rfl (st2 := []) rfl ?_
    refine g_iload_n C (gdec dt_X8_scanToken 22 rfl) (i := 2) rfl rfl ?_
    cases hf
    exact g_iret C rfl (gdec dt_X8_scanToken 23 rfl)
set_option maxHeartbeats 4000000 in
set_option maxRecDepth 100000 in
theorem Lb_X8_scanToken_2 {p : Program} {l : Launch} {e : Env} {s : State} {m : MethodId} {args : Array Value} {below : List Frame} {meth : Method} {c : Code} {D : va_G} {cA ad : Nat → Nat} {q : (Int32 × GW)} (C : gC p c cX8_scanToken meth m s args 3 (some .int) RX8 D cA ad shT) {k2 : Int32 → GW → Option (Int32 × GW)} (hk2 : ∀ (x2 : Int32) (w : GW), k2 x2 w = some q → gW p l e (gRm 9 696) s m args below meth c D cA ad shT 3 0 0 (gQ below D cA ad shT (some (.int q.1)) q.2 args s) 2 [(0, .ref 0), (2, .int x2)] [] w) (x2 : Int32) (w : GW) (hf : b_X8_scanToken_2 k2 x2 w = some q) : gW p l e (gRm 9 696) s m args below meth c D cA ad shT 3 0 0 (gQ below D cA ad shT (some (.int q.1)) q.2 args s) 2 [(0, .ref 0), (2, .int x2)] [] w := by
  unfold b_X8_scanToken_2 at hf
  refine g_iload_n C (gdec dt_X8_scanToken 2 rfl) (i := 2) rfl rfl ?_
  refine g_aload_n C (gdec dt_X8_scanToken 3 rfl) (i := 0) rfl rfl ?_
  refine g_geti C kf_X8_31 rfl rfl (gdec dt_X8_scanToken 4 rfl) ?_
  refine g_icmp_ge C (tgt := 24) (gdec dt_X8_scanToken 5 rfl) (by decide) (fun hc1 => ?_) (fun hc1 => ?_)
  · have hf := (if_pos hc1).symm.trans hf
    refine g_sub [0, 1] (lo2 := [(0, .ref 0), (2, .int x2)]) rfl ?_
    exact L_X8_scanToken_24 C x2 w hf
  · have hf := (if_neg hc1).symm.trans hf
    refine g_aload_n C (gdec dt_X8_scanToken 6 rfl) (i := 0) rfl rfl ?_
    refine g_iload_n C (gdec dt_X8_scanToken 7 rfl) (i := 2) rfl rfl ?_
    obtain ⟨q2, hq2, hf⟩ := Option.bind_eq_some_iff.mp hf
    refine g_invV [.int x2] [] C (c_X8_isBlank l D cA _ (gCi C) w x2 q2 hq2) kT_X8_isBlank kl_X8_78 kim_X8_isBlank kse_X8_isBlank rfl rfl (i := 0) rfl rfl ⟨by decide, by decide⟩ gk0 (Nat.le_of_ble_eq_true rfl) (gdec dt_X8_scanToken 8 rfl) rfl (st2 := [.int q2]) rfl ?_
    refine g_if_eq C (tgt := 24) (gdec dt_X8_scanToken 9 rfl) (by decide) (fun hc3 => ?_) (fun hc3 => ?_)
    · have hf := (if_pos hc3).symm.trans hf
      refine g_sub [0, 1] (lo2 := [(0, .ref 0), (2, .int x2)]) rfl ?_
      exact L_X8_scanToken_24 C x2 w hf
    · have hf := (if_neg hc3).symm.trans hf
      refine g_iinc C (gdec dt_X8_scanToken 10 rfl) (kk := 1) rfl (v := (x2 + (1 : Int32))) rfl (by decide) (lo2 := [(2, .int (x2 + (1 : Int32))), (0, .ref 0)]) rfl ?_
      refine g_goto C (tgt := 2) (gdec dt_X8_scanToken 11 rfl) (by decide) ?_
      refine g_sub [1, 0] (lo2 := [(0, .ref 0), (2, .int (x2 + (1 : Int32)))]) rfl ?_
      exact hk2 (x2 + (1 : Int32)) w hf
theorem L_X8_scanToken_2 {p : Program} {l : Launch} {e : Env} {s : State} {m : MethodId} {args : Array Value} {below : List Frame} {meth : Method} {c : Code} {D : va_G} {cA ad : Nat → Nat} {q : (Int32 × GW)} (C : gC p c cX8_scanToken meth m s args 3 (some .int) RX8 D cA ad shT) : ∀ (n : Nat) (x2 : Int32) (w : GW), f_X8_scanToken_2 n x2 w = some q → gW p l e (gRm 9 696) s m args below meth c D cA ad shT 3 0 0 (gQ below D cA ad shT (some (.int q.1)) q.2 args s) 2 [(0, .ref 0), (2, .int x2)] [] w := by
  intro n
  induction n with
  | zero => intro _ _ hf; cases hf
  | succ n ih => intro x2 w hf; exact Lb_X8_scanToken_2 C ih x2 w hf
set_option maxHeartbeats 4000000 in
set_option maxRecDepth 100000 in
theorem c_X8_scanToken (l : Launch) (D : va_G) (cA ad : Nat → Nat) (hin : gInj ad shT.length) (w : GW) (x1 : Int32) (q : (Int32 × GW)) (hf : F_X8_scanToken x1 w = some q) : gMet l yX8_scanToken cX8_scanToken 3 (some .int) 9 696 D cA ad shT [.ref 0, .int x1] w (some (.int q.1)) q.2 := by
  refine g_entry (by decide) hin (Nat.le_of_ble_eq_true rfl) ?_
  intro p e s m args below meth c C
  unfold F_X8_scanToken at hf
  show gW p l e (gRm 9 696) s m args below meth c D cA ad shT 3 0 0 (gQ below D cA ad shT (some (.int q.1)) q.2 args s) 0 [(0, .ref 0), (1, .int x1)] [] w
  refine g_iload_n C (gdec dt_X8_scanToken 0 rfl) (i := 1) rfl rfl ?_
  refine g_istore_n C (gdec dt_X8_scanToken 1 rfl) (i := 2) rfl (by decide) (lo2 := [(2, .int x1), (0, .ref 0), (1, .int x1)]) rfl ?_
  refine g_sub [1, 0] (lo2 := [(0, .ref 0), (2, .int x1)]) rfl ?_
  exact L_X8_scanToken_2 C FU x1 w hf
set_option maxHeartbeats 4000000 in
set_option maxRecDepth 100000 in
theorem L_X8_begin_73 {p : Program} {l : Launch} {e : Env} {s : State} {m : MethodId} {args : Array Value} {below : List Frame} {meth : Method} {c : Code} {D : va_G} {cA ad : Nat → Nat} {q : GW} (C : gC p c cX8_begin meth m s args 4 none RX8 D cA ad shT) (w : GW) (hf : f_X8_begin_73 w = some q) : gW p l e (gRm 10 718) s m args below meth c D cA ad shT 4 0 0 (gQ below D cA ad shT none q args s) 73 [(0, .ref 0)] [] w := by
  unfold f_X8_begin_73 at hf
  refine g_aload_n C (gdec dt_X8_begin 39 rfl) (i := 0) rfl rfl ?_
  refine g_iconst C (gdec dt_X8_begin 40 rfl) ic_0 ?_
  refine g_puti C kf_X8_46 rfl rfl (gdec dt_X8_begin 41 rfl) ?_
  refine g_aload_n C (gdec dt_X8_begin 42 rfl) (i := 0) rfl rfl ?_
  obtain ⟨q5, hq5, hf⟩ := Option.bind_eq_some_iff.mp hf
  refine g_invV [] [] C (c_X8_advance l D cA _ (gCi C) (gI w 0 11 (0 : Int32))  q5 hq5) kT_X8_advance kl_X8_72 kim_X8_advance kse_X8_advance rfl rfl (i := 0) rfl rfl ⟨by decide, by decide⟩ gk0 (Nat.le_of_ble_eq_true rfl) (gdec dt_X8_begin 43 rfl) rfl (st2 := []) rfl ?_
  cases hf
  exact g_vret C rfl (gdec dt_X8_begin 44 rfl)
set_option maxHeartbeats 4000000 in
set_option maxRecDepth 100000 in
theorem Lb_X8_begin_47 {p : Program} {l : Launch} {e : Env} {s : State} {m : MethodId} {args : Array Value} {below : List Frame} {meth : Method} {c : Code} {D : va_G} {cA ad : Nat → Nat} {q : GW} (C : gC p c cX8_begin meth m s args 4 none RX8 D cA ad shT) {k47 : Int32 → Int32 → GW → Option GW} (hk47 : ∀ (x2 : Int32) (x3 : Int32) (w : GW), k47 x2 x3 w = some q → gW p l e (gRm 10 718) s m args below meth c D cA ad shT 4 0 0 (gQ below D cA ad shT none q args s) 47 [(0, .ref 0), (2, .int x2), (3, .int x3)] [] w) (x2 : Int32) (x3 : Int32) (w : GW) (hf : b_X8_begin_47 k47 x2 x3 w = some q) : gW p l e (gRm 10 718) s m args below meth c D cA ad shT 4 0 0 (gQ below D cA ad shT none q args s) 47 [(0, .ref 0), (2, .int x2), (3, .int x3)] [] w := by
  unfold b_X8_begin_47 at hf
  refine g_iload_n C (gdec dt_X8_begin 27 rfl) (i := 3) rfl rfl ?_
  refine g_sipush C (gdec dt_X8_begin 28 rfl) sc_901 ?_
  refine g_icmp_ge C (tgt := 73) (gdec dt_X8_begin 29 rfl) (by decide) (fun hc2 => ?_) (fun hc2 => ?_)
  · have hf := (if_pos hc2).symm.trans hf
    refine g_sub [0] (lo2 := [(0, .ref 0)]) rfl ?_
    exact L_X8_begin_73 C w hf
  · have hf := (if_neg hc2).symm.trans hf
    refine g_aload_n C (gdec dt_X8_begin 30 rfl) (i := 0) rfl rfl ?_
    refine g_geti C kf_X8_49 rfl rfl (gdec dt_X8_begin 31 rfl) ?_
    refine g_if_ne C (tgt := 73) (gdec dt_X8_begin 32 rfl) (by decide) (fun hc3 => ?_) (fun hc3 => ?_)
    · have hf := (if_neg hc3).symm.trans hf
      refine g_sub [0] (lo2 := [(0, .ref 0)]) rfl ?_
      exact L_X8_begin_73 C w hf
    · have hf := (if_pos hc3).symm.trans hf
      refine g_aload_n C (gdec dt_X8_begin 33 rfl) (i := 0) rfl rfl ?_
      refine g_iload_n C (gdec dt_X8_begin 34 rfl) (i := 2) rfl rfl ?_
      obtain ⟨q4, hq4, hf⟩ := Option.bind_eq_some_iff.mp hf
      refine g_invV [.int x2] [] C (c_X8_scanToken l D cA _ (gCi C) w x2 q4 hq4) kT_X8_scanToken kl_X8_68 kim_X8_scanToken kse_X8_scanToken rfl rfl (i := 0) rfl rfl ⟨by decide, by decide⟩ gk0 (Nat.le_of_ble_eq_true rfl) (gdec dt_X8_begin 35 rfl) rfl (st2 := [.int q4.1]) rfl ?_
      refine g_istore_n C (gdec dt_X8_begin 36 rfl) (i := 2) rfl (by decide) (lo2 := [(2, .int q4.1), (0, .ref 0), (3, .int x3)]) rfl ?_
      refine g_iinc C (gdec dt_X8_begin 37 rfl) (kk := 2) rfl (v := (x3 + (1 : Int32))) rfl (by decide) (lo2 := [(3, .int (x3 + (1 : Int32))), (2, .int q4.1), (0, .ref 0)]) rfl ?_
      refine g_goto C (tgt := 47) (gdec dt_X8_begin 38 rfl) (by decide) ?_
      refine g_sub [2, 1, 0] (lo2 := [(0, .ref 0), (2, .int q4.1), (3, .int (x3 + (1 : Int32)))]) rfl ?_
      exact hk47 q4.1 (x3 + (1 : Int32)) q4.2 hf
theorem L_X8_begin_47 {p : Program} {l : Launch} {e : Env} {s : State} {m : MethodId} {args : Array Value} {below : List Frame} {meth : Method} {c : Code} {D : va_G} {cA ad : Nat → Nat} {q : GW} (C : gC p c cX8_begin meth m s args 4 none RX8 D cA ad shT) : ∀ (n : Nat) (x2 : Int32) (x3 : Int32) (w : GW), f_X8_begin_47 n x2 x3 w = some q → gW p l e (gRm 10 718) s m args below meth c D cA ad shT 4 0 0 (gQ below D cA ad shT none q args s) 47 [(0, .ref 0), (2, .int x2), (3, .int x3)] [] w := by
  intro n
  induction n with
  | zero => intro _ _ _ hf; cases hf
  | succ n ih => intro x2 x3 w hf; exact Lb_X8_begin_47 C ih x2 x3 w hf
set_option maxHeartbeats 4000000 in
set_option maxRecDepth 100000 in
theorem L_X8_begin_20 {p : Program} {l : Launch} {e : Env} {s : State} {m : MethodId} {args : Array Value} {below : List Frame} {meth : Method} {c : Code} {D : va_G} {cA ad : Nat → Nat} {q : GW} (C : gC p c cX8_begin meth m s args 4 none RX8 D cA ad shT) (s0 : Int32) (w : GW) (hf : f_X8_begin_20 s0 w = some q) : gW p l e (gRm 10 718) s m args below meth c D cA ad shT 4 0 0 (gQ below D cA ad shT none q args s) 20 [(0, .ref 0)] [.int s0, .ref 0] w := by
  unfold f_X8_begin_20 at hf
  refine g_puti C kf_X8_31 rfl rfl (gdec dt_X8_begin 10 rfl) ?_
  refine g_aload_n C (gdec dt_X8_begin 11 rfl) (i := 0) rfl rfl ?_
  refine g_iconst C (gdec dt_X8_begin 12 rfl) ic_0 ?_
  refine g_puti C kf_X8_43 rfl rfl (gdec dt_X8_begin 13 rfl) ?_
  refine g_aload_n C (gdec dt_X8_begin 14 rfl) (i := 0) rfl rfl ?_
  refine g_iconst C (gdec dt_X8_begin 15 rfl) ic_0 ?_
  refine g_puti C kf_X8_25 rfl rfl (gdec dt_X8_begin 16 rfl) ?_
  refine g_aload_n C (gdec dt_X8_begin 17 rfl) (i := 0) rfl rfl ?_
  refine g_iconst C (gdec dt_X8_begin 18 rfl) ic_m1 ?_
  refine g_puti C kf_X8_28 rfl rfl (gdec dt_X8_begin 19 rfl) ?_
  refine g_iconst C (gdec dt_X8_begin 20 rfl) ic_0 ?_
  refine g_istore_n C (gdec dt_X8_begin 21 rfl) (i := 2) rfl (by decide) (lo2 := [(2, .int (0 : Int32)), (0, .ref 0)]) rfl ?_
  refine g_aload_n C (gdec dt_X8_begin 22 rfl) (i := 0) rfl rfl ?_
  refine g_iconst C (gdec dt_X8_begin 23 rfl) ic_0 ?_
  refine g_putz C kf_X8_49 rfl rfl (Or.inl rfl) (gdec dt_X8_begin 24 rfl) ?_
  refine g_iconst C (gdec dt_X8_begin 25 rfl) ic_0 ?_
  refine g_istore_n C (gdec dt_X8_begin 26 rfl) (i := 3) rfl (by decide) (lo2 := [(3, .int (0 : Int32)), (2, .int (0 : Int32)), (0, .ref 0)]) rfl ?_
  refine g_sub [2, 1, 0] (lo2 := [(0, .ref 0), (2, .int (0 : Int32)), (3, .int (0 : Int32))]) rfl ?_
  exact L_X8_begin_47 C FU (0 : Int32) (0 : Int32) (gI (gI (gI (gI (gI w 0 6 s0) 0 10 (0 : Int32)) 0 4 (0 : Int32)) 0 5 (-1 : Int32)) 0 12 (0 : Int32)) hf
set_option maxHeartbeats 4000000 in
set_option maxRecDepth 100000 in
theorem c_X8_begin (l : Launch) (D : va_G) (cA ad : Nat → Nat) (hin : gInj ad shT.length) (w : GW) (x1 : Int32) (q : GW) (hf : F_X8_begin x1 w = some q) : gMet l yX8_begin cX8_begin 4 none 10 718 D cA ad shT [.ref 0, .int x1] w none q := by
  refine g_entry (by decide) hin (Nat.le_of_ble_eq_true rfl) ?_
  intro p e s m args below meth c C
  unfold F_X8_begin at hf
  show gW p l e (gRm 10 718) s m args below meth c D cA ad shT 4 0 0 (gQ below D cA ad shT none q args s) 0 [(0, .ref 0), (1, .int x1)] [] w
  refine g_aload_n C (gdec dt_X8_begin 0 rfl) (i := 0) rfl rfl ?_
  refine g_iconst C (gdec dt_X8_begin 1 rfl) ic_0 ?_
  refine g_puti C kf_X8_9 rfl rfl (gdec dt_X8_begin 2 rfl) ?_
  refine g_aload_n C (gdec dt_X8_begin 3 rfl) (i := 0) rfl rfl ?_
  refine g_iload_n C (gdec dt_X8_begin 4 rfl) (i := 1) rfl rfl ?_
  refine g_sipush C (gdec dt_X8_begin 5 rfl) sc_900 ?_
  refine g_icmp_ge C (tgt := 17) (gdec dt_X8_begin 6 rfl) (by decide) (fun hc1 => ?_) (fun hc1 => ?_)
  · have hf := (if_pos hc1).symm.trans hf
    refine g_sipush C (gdec dt_X8_begin 9 rfl) sc_900 ?_
    refine g_sub [0] (lo2 := [(0, .ref 0)]) rfl ?_
    exact L_X8_begin_20 C (900 : Int32) (gI w 0 0 (0 : Int32)) hf
  · have hf := (if_neg hc1).symm.trans hf
    refine g_iload_n C (gdec dt_X8_begin 7 rfl) (i := 1) rfl rfl ?_
    refine g_goto C (tgt := 20) (gdec dt_X8_begin 8 rfl) (by decide) ?_
    refine g_sub [0] (lo2 := [(0, .ref 0)]) rfl ?_
    exact L_X8_begin_20 C x1 (gI w 0 0 (0 : Int32)) hf
