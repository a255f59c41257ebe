def tb_X10_status : List (Nat × Jvm.ClassFile.Instr × Nat) := [(0, .aload_n 0, 1), (1, .getfield 99, 3), (4, .ireturn, 1)]
set_option maxRecDepth 100000 in
theorem dt_X10_status : ∀ q ∈ tb_X10_status, decode cX10_status q.1 = .ok q.2 := by decide +kernel
def tb_X10_top : List (Nat × Jvm.ClassFile.Instr × Nat) := [(0, .aload_n 0, 1), (1, .getfield 102, 3), (4, .lreturn, 1)]
set_option maxRecDepth 100000 in
theorem dt_X10_top : ∀ q ∈ tb_X10_top, decode cX10_top q.1 = .ok q.2 := by decide +kernel
def tb_X10_bottom : List (Nat × Jvm.ClassFile.Instr × Nat) := [(0, .aload_n 0, 1), (1, .getfield 106, 3), (4, .lreturn, 1)]
set_option maxRecDepth 100000 in
theorem dt_X10_bottom : ∀ q ∈ tb_X10_bottom, decode cX10_bottom q.1 = .ok q.2 := by decide +kernel
def tb_X10_answer : List (Nat × Jvm.ClassFile.Instr × Nat) := [(0, .aload_n 0, 1), (1, .iconst 0, 1), (2, .putfield 99, 3), (5, .iload_n 1, 1), (6, .ireturn, 1)]
set_option maxRecDepth 100000 in
theorem dt_X10_answer : ∀ q ∈ tb_X10_answer, decode cX10_answer q.1 = .ok q.2 := by decide +kernel
def tb_X10_refuse : List (Nat × Jvm.ClassFile.Instr × Nat) := [(0, .aload_n 0, 1), (1, .iload_n 1, 1), (2, .putfield 99, 3), (5, .iconst (-1), 1), (6, .ireturn, 1)]
set_option maxRecDepth 100000 in
theorem dt_X10_refuse : ∀ q ∈ tb_X10_refuse, decode cX10_refuse q.1 = .ok q.2 := by decide +kernel
def tb_X10_answerOrRefuse : List (Nat × Jvm.ClassFile.Instr × Nat) := [(0, .iload_n 1, 1), (1, .iconst (-1), 1), (2, .if_icmp .ne 11, 3), (5, .aload_n 0, 1), (6, .iload_n 2, 1), (7, .invokevirtual 110, 3), (10, .goto 8, 3), (13, .aload_n 0, 1), (14, .iload_n 1, 1), (15, .invokevirtual 114, 3), (18, .ireturn, 1)]
set_option maxRecDepth 100000 in
theorem dt_X10_answerOrRefuse : ∀ q ∈ tb_X10_answerOrRefuse, decode cX10_answerOrRefuse q.1 = .ok q.2 := by decide +kernel
def tb_X10_grant : List (Nat × Jvm.ClassFile.Instr × Nat) := [(0, .aload_n 0, 1), (1, .iconst 0, 1), (2, .putfield 99, 3), (5, .iconst 1, 1), (6, .ireturn, 1)]
set_option maxRecDepth 100000 in
theorem dt_X10_grant : ∀ q ∈ tb_X10_grant, decode cX10_grant q.1 = .ok q.2 := by decide +kernel
def tb_X10_deny : List (Nat × Jvm.ClassFile.Instr × Nat) := [(0, .aload_n 0, 1), (1, .iload_n 1, 1), (2, .putfield 99, 3), (5, .iconst 0, 1), (6, .ireturn, 1)]
set_option maxRecDepth 100000 in
theorem dt_X10_deny : ∀ q ∈ tb_X10_deny, decode cX10_deny q.1 = .ok q.2 := by decide +kernel
def tb_X10_commonDivisor : List (Nat × Jvm.ClassFile.Instr × Nat) := [(0, .lload_n 0, 1), (1, .lstore 4, 2), (3, .lload_n 2, 1), (4, .lstore 6, 2), (6, .iconst 0, 1), (7, .istore 8, 2), (9, .iload 8, 2), (11, .ldc 125, 2), (13, .if_icmp .ge 31, 3), (16, .lload 6, 2), (18, .lconst 0, 1), (19, .lcmp, 1), (20, .ifCond .eq 24, 3), (23, .lload 4, 2), (25, .lload 6, 2), (27, .lrem, 1), (28, .lstore 9, 2), (30, .lload 6, 2), (32, .lstore 4, 2), (34, .lload 9, 2), (36, .lstore 6, 2), (38, .iinc 8 1, 3), (41, .goto (-32), 3), (44, .lload 4, 2), (46, .lreturn, 1)]
set_option maxRecDepth 100000 in
theorem dt_X10_commonDivisor : ∀ q ∈ tb_X10_commonDivisor, decode cX10_commonDivisor q.1 = .ok q.2 := by decide +kernel
def tb_X10_grantFraction : List (Nat × Jvm.ClassFile.Instr × Nat) := [(0, .lload_n 1, 1), (1, .lconst 0, 1), (2, .lcmp, 1), (3, .ifCond .eq 9, 3), (6, .lload_n 3, 1), (7, .lconst 0, 1), (8, .lcmp, 1), (9, .ifCond .gt 18, 3), (12, .aload_n 0, 1), (13, .lconst 0, 1), (14, .putfield 102, 3), (17, .aload_n 0, 1), (18, .lconst 1, 1), (19, .putfield 106, 3), (22, .aload_n 0, 1), (23, .invokevirtual 117, 3), (26, .ireturn, 1), (27, .lload_n 1, 1), (28, .lload_n 3, 1), (29, .invokestatic 121, 3), (32, .lstore 5, 2), (34, .lload 5, 2), (36, .lconst 0, 1), (37, .lcmp, 1), (38, .ifCond .le 19, 3), (41, .aload_n 0, 1), (42, .lload_n 1, 1), (43, .lload 5, 2), (45, .ldiv, 1), (46, .putfield 102, 3), (49, .aload_n 0, 1), (50, .lload_n 3, 1), (51, .lload 5, 2), (53, .ldiv, 1), (54, .putfield 106, 3), (57, .aload_n 0, 1), (58, .invokevirtual 117, 3), (61, .ireturn, 1)]
set_option maxRecDepth 100000 in
theorem dt_X10_grantFraction : ∀ q ∈ tb_X10_grantFraction, decode cX10_grantFraction q.1 = .ok q.2 := by decide +kernel
def tb_X10_between : List (Nat × Jvm.ClassFile.Instr × Nat) := [(0, .iload_n 0, 1), (1, .iload_n 1, 1), (2, .if_icmp .lt 12, 3), (5, .iload_n 0, 1), (6, .iload_n 2, 1), (7, .if_icmp .gt 7, 3), (10, .iconst 1, 1), (11, .goto 4, 3), (14, .iconst 0, 1), (15, .ireturn, 1)]
set_option maxRecDepth 100000 in
theorem dt_X10_between : ∀ q ∈ tb_X10_between, decode cX10_between q.1 = .ok q.2 := by decide +kernel
def tb_X10_isYears : List (Nat × Jvm.ClassFile.Instr × Nat) := [(0, .iload_n 1, 1), (1, .iconst 0, 1), (2, .bipush 40, 2), (4, .invokestatic 126, 3), (7, .ireturn, 1)]
set_option maxRecDepth 100000 in
theorem dt_X10_isYears : ∀ q ∈ tb_X10_isYears, decode cX10_isYears q.1 = .ok q.2 := by decide +kernel
def tb_X10_tray : List (Nat × Jvm.ClassFile.Instr × Nat) := [(0, .aload_n 0, 1), (1, .getfield 12, 3), (4, .iload_n 1, 1), (5, .invokevirtual 130, 3), (8, .ifCond .eq 22, 3), (11, .iload_n 2, 1), (12, .iconst 0, 1), (13, .iconst 3, 1), (14, .invokestatic 126, 3), (17, .ifCond .eq 13, 3), (20, .iload_n 3, 1), (21, .iconst 0, 1), (22, .bipush 60, 2), (24, .invokestatic 126, 3), (27, .ifCond .ne 9, 3), (30, .aload_n 0, 1), (31, .iconst 1, 1), (32, .invokevirtual 134, 3), (35, .ireturn, 1), (36, .aload_n 0, 1), (37, .getfield 12, 3), (40, .iload_n 1, 1), (41, .iload_n 2, 1), (42, .iload_n 3, 1), (43, .invokevirtual 137, 3), (46, .aload_n 0, 1), (47, .invokevirtual 117, 3), (50, .ireturn, 1)]
set_option maxRecDepth 100000 in
theorem dt_X10_tray : ∀ q ∈ tb_X10_tray, decode cX10_tray q.1 = .ok q.2 := by decide +kernel
def tb_X10_write : List (Nat × Jvm.ClassFile.Instr × Nat) := [(0, .aload_n 0, 1), (1, .getfield 12, 3), (4, .iload_n 1, 1), (5, .iload_n 2, 1), (6, .invokevirtual 141, 3), (9, .istore 5, 2), (11, .iload 5, 2), (13, .ifCond .eq 10, 3), (16, .aload_n 0, 1), (17, .iload 5, 2), (19, .invokevirtual 134, 3), (22, .ireturn, 1), (23, .aload_n 0, 1), (24, .getfield 12, 3), (27, .iload_n 1, 1), (28, .iload_n 2, 1), (29, .lload_n 3, 1), (30, .invokevirtual 145, 3), (33, .aload_n 0, 1), (34, .invokevirtual 117, 3), (37, .ireturn, 1)]
set_option maxRecDepth 100000 in
theorem dt_X10_write : ∀ q ∈ tb_X10_write, decode cX10_write q.1 = .ok q.2 := by decide +kernel
def tb_X10_read : List (Nat × Jvm.ClassFile.Instr × Nat) := [(0, .aload_n 0, 1), (1, .getfield 12, 3), (4, .iload_n 1, 1), (5, .iload_n 2, 1), (6, .invokevirtual 141, 3), (9, .istore_n 3, 1), (10, .iload_n 3, 1), (11, .ifCond .eq 10, 3), (14, .aload_n 0, 1), (15, .iload_n 3, 1), (16, .invokevirtual 110, 3), (19, .i2l, 1), (20, .lreturn, 1), (21, .aload_n 0, 1), (22, .iconst 0, 1), (23, .putfield 99, 3), (26, .aload_n 0, 1), (27, .getfield 12, 3), (30, .iload_n 1, 1), (31, .iload_n 2, 1), (32, .invokevirtual 149, 3), (35, .lreturn, 1)]
set_option maxRecDepth 100000 in
theorem dt_X10_read : ∀ q ∈ tb_X10_read, decode cX10_read q.1 = .ok q.2 := by decide +kernel
def tb_X10_pour : List (Nat × Jvm.ClassFile.Instr × Nat) := [(0, .aload_n 0, 1), (1, .getfield 12, 3), (4, .iload_n 1, 1), (5, .invokevirtual 130, 3), (8, .ifCond .eq 28, 3), (11, .aload_n 0, 1), (12, .getfield 12, 3), (15, .iload_n 3, 1), (16, .invokevirtual 130, 3), (19, .ifCond .eq 17, 3), (22, .iload_n 2, 1), (23, .ifCond .lt 13, 3), (26, .iload 4, 2), (28, .ifCond .lt 8, 3), (31, .iload 5, 2), (33, .ifCond .ge 9, 3), (36, .aload_n 0, 1), (37, .iconst 1, 1), (38, .invokevirtual 134, 3), (41, .ireturn, 1), (42, .aload_n 0, 1), (43, .getfield 12, 3), (46, .iload_n 1, 1), (47, .invokevirtual 153, 3), (50, .ifCond .eq 14, 3), (53, .aload_n 0, 1), (54, .getfield 12, 3), (57, .iload_n 3, 1), (58, .invokevirtual 153, 3), (61, .ifCond .ne 9, 3), (64, .aload_n 0, 1), (65, .iconst 2, 1), (66, .invokevirtual 134, 3), (69, .ireturn, 1), (70, .aload_n 0, 1), (71, .getfield 12, 3), (74, .iload_n 1, 1), (75, .iload_n 3, 1), (76, .invokevirtual 156, 3), (79, .ifCond .ne 10, 3), (82, .aload_n 0, 1), (83, .bipush 8, 2), (85, .invokevirtual 134, 3), (88, .ireturn, 1), (89, .aload_n 0, 1), (90, .getfield 12, 3), (93, .iload_n 1, 1), (94, .iload_n 2, 1), (95, .iload 5, 2), (97, .invokevirtual 160, 3), (100, .ifCond .eq 18, 3), (103, .aload_n 0, 1), (104, .getfield 12, 3), (107, .iload_n 3, 1), (108, .iload 4, 2), (110, .iload 5, 2), (112, .invokevirtual 160, 3), (115, .ifCond .ne 9, 3), (118, .aload_n 0, 1), (119, .iconst 3, 1), (120, .invokevirtual 134, 3), (123, .ireturn, 1), (124, .aload_n 0, 1), (125, .getfield 12, 3), (128, .iload_n 1, 1), (129, .iload_n 2, 1), (130, .iload_n 3, 1), (131, .iload 4, 2), (133, .iload 5, 2), (135, .invokevirtual 163, 3), (138, .aload_n 0, 1), (139, .invokevirtual 117, 3), (142, .ireturn, 1)]
set_option maxRecDepth 100000 in
theorem dt_X10_pour : ∀ q ∈ tb_X10_pour, decode cX10_pour q.1 = .ok q.2 := by decide +kernel
def tb_X10_feed : List (Nat × Jvm.ClassFile.Instr × Nat) := [(0, .aload_n 0, 1), (1, .getfield 19, 3), (4, .bipush 20, 2), (6, .invokevirtual 167, 3), (9, .ifCond .ne 5, 3), (12, .iconst (-1), 1), (13, .ireturn, 1), (14, .aload_n 0, 1), (15, .getfield 19, 3), (18, .iload_n 1, 1), (19, .invokevirtual 170, 3), (22, .aload_n 0, 1), (23, .getfield 19, 3), (26, .iload_n 2, 1), (27, .invokevirtual 170, 3), (30, .aload_n 0, 1), (31, .getfield 19, 3), (34, .iload_n 3, 1), (35, .invokevirtual 170, 3), (38, .aload_n 0, 1), (39, .getfield 19, 3), (42, .iload 4, 2), (44, .invokevirtual 170, 3), (47, .aload_n 0, 1), (48, .getfield 19, 3), (51, .iload 5, 2), (53, .invokevirtual 170, 3), (56, .aload_n 0, 1), (57, .getfield 19, 3), (60, .getfield 174, 3), (63, .ireturn, 1)]
set_option maxRecDepth 100000 in
theorem dt_X10_feed : ∀ q ∈ tb_X10_feed, decode cX10_feed q.1 = .ok q.2 := by decide +kernel
def tb_X10_bank : List (Nat × Jvm.ClassFile.Instr × Nat) := [(0, .iload_n 1, 1), (1, .ifCond .lt 14, 3), (4, .iload_n 1, 1), (5, .aload_n 0, 1), (6, .getfield 19, 3), (9, .getfield 174, 3), (12, .if_icmp .le 9, 3), (15, .aload_n 0, 1), (16, .iconst 1, 1), (17, .invokevirtual 110, 3), (20, .ireturn, 1), (21, .aload_n 0, 1), (22, .getfield 19, 3), (25, .iload_n 1, 1), (26, .invokevirtual 177, 3), (29, .aload_n 0, 1), (30, .getfield 48, 3), (33, .invokevirtual 180, 3), (36, .ifCond .ne 10, 3), (39, .aload_n 0, 1), (40, .bipush 9, 2), (42, .invokevirtual 110, 3), (45, .ireturn, 1), (46, .aload_n 0, 1), (47, .getfield 26, 3), (50, .aload_n 0, 1), (51, .getfield 30, 3), (54, .invokevirtual 183, 3), (57, .aload_n 0, 1), (58, .getfield 36, 3), (61, .invokevirtual 187, 3), (64, .aload_n 0, 1), (65, .aload_n 0, 1), (66, .getfield 26, 3), (69, .getfield 190, 3), (72, .invokevirtual 114, 3), (75, .ireturn, 1)]
set_option maxRecDepth 100000 in
theorem dt_X10_bank : ∀ q ∈ tb_X10_bank, decode cX10_bank q.1 = .ok q.2 := by decide +kernel
def tb_X10_decades : List (Nat × Jvm.ClassFile.Instr × Nat) := [(0, .iload_n 1, 1), (1, .ifCond .lt 21, 3), (4, .iload_n 1, 1), (5, .aload_n 0, 1), (6, .getfield 19, 3), (9, .getfield 174, 3), (12, .if_icmp .gt 10, 3), (15, .iload_n 1, 1), (16, .sipush 300, 3), (19, .if_icmp .le 9, 3), (22, .aload_n 0, 1), (23, .iconst 1, 1), (24, .invokevirtual 110, 3), (27, .ireturn, 1), (28, .aload_n 0, 1), (29, .getfield 19, 3), (32, .iload_n 1, 1), (33, .invokevirtual 177, 3), (36, .aload_n 0, 1), (37, .getfield 57, 3), (40, .invokevirtual 193, 3), (43, .ifCond .ne 10, 3), (46, .aload_n 0, 1), (47, .bipush 9, 2), (49, .invokevirtual 110, 3), (52, .ireturn, 1), (53, .aload_n 0, 1), (54, .getfield 36, 3), (57, .aload_n 0, 1), (58, .getfield 40, 3), (61, .invokevirtual 196, 3), (64, .aload_n 0, 1), (65, .aload_n 0, 1), (66, .getfield 36, 3), (69, .getfield 199, 3), (72, .invokevirtual 114, 3), (75, .ireturn, 1)]
set_option maxRecDepth 100000 in
theorem dt_X10_decades : ∀ q ∈ tb_X10_decades, decode cX10_decades q.1 = .ok q.2 := by decide +kernel
def tb_X10_fault : List (Nat × Jvm.ClassFile.Instr × Nat) := [(0, .iload_n 1, 1), (1, .ifCond .ne 11, 3), (4, .aload_n 0, 1), (5, .getfield 19, 3), (8, .getfield 202, 3), (11, .ireturn, 1), (12, .iload_n 1, 1), (13, .iconst 1, 1), (14, .if_icmp .ne 13, 3), (17, .aload_n 0, 1), (18, .getfield 19, 3), (21, .getfield 205, 3), (24, .goto 4, 3), (27, .iconst (-1), 1), (28, .ireturn, 1)]
set_option maxRecDepth 100000 in
theorem dt_X10_fault : ∀ q ∈ tb_X10_fault, decode cX10_fault q.1 = .ok q.2 := by decide +kernel
def tb_X10_toldOf : List (Nat × Jvm.ClassFile.Instr × Nat) := [(0, .iload_n 1, 1), (1, .tableswitch 135 0 9 #[55, 63, 71, 79, 87, 95, 103, 111, 119, 127], 55), (56, .aload_n 0, 1), (57, .getfield 26, 3), (60, .getfield 211, 3), (63, .ireturn, 1), (64, .aload_n 0, 1), (65, .getfield 26, 3), (68, .getfield 214, 3), (71, .ireturn, 1), (72, .aload_n 0, 1), (73, .getfield 26, 3), (76, .getfield 190, 3), (79, .ireturn, 1), (80, .aload_n 0, 1), (81, .getfield 26, 3), (84, .getfield 217, 3), (87, .ireturn, 1), (88, .aload_n 0, 1), (89, .getfield 26, 3), (92, .getfield 220, 3), (95, .ireturn, 1), (96, .aload_n 0, 1), (97, .getfield 26, 3), (100, .getfield 223, 3), (103, .ireturn, 1), (104, .aload_n 0, 1), (105, .getfield 26, 3), (108, .getfield 226, 3), (111, .ireturn, 1), (112, .aload_n 0, 1), (113, .getfield 26, 3), (116, .invokevirtual 229, 3), (119, .ireturn, 1), (120, .aload_n 0, 1), (121, .getfield 26, 3), (124, .invokevirtual 233, 3), (127, .ireturn, 1), (128, .aload_n 0, 1), (129, .getfield 26, 3), (132, .invokevirtual 236, 3), (135, .ireturn, 1), (136, .aload_n 0, 1), (137, .getfield 26, 3), (140, .sipush 255, 3), (143, .invokevirtual 239, 3), (146, .ireturn, 1)]
set_option maxRecDepth 100000 in
theorem dt_X10_toldOf : ∀ q ∈ tb_X10_toldOf, decode cX10_toldOf q.1 = .ok q.2 := by decide +kernel
def tb_X10_told : List (Nat × Jvm.ClassFile.Instr × Nat) := [(0, .iload_n 1, 1), (1, .iconst 0, 1), (2, .bipush 10, 2), (4, .invokestatic 126, 3), (7, .ifCond .ne 9, 3), (10, .aload_n 0, 1), (11, .iconst 1, 1), (12, .invokevirtual 110, 3), (15, .ireturn, 1), (16, .aload_n 0, 1), (17, .aload_n 0, 1), (18, .iload_n 1, 1), (19, .invokevirtual 208, 3), (22, .invokevirtual 114, 3), (25, .ireturn, 1)]
set_option maxRecDepth 100000 in
theorem dt_X10_told : ∀ q ∈ tb_X10_told, decode cX10_told q.1 = .ok q.2 := by decide +kernel
def tb_X10_corner : List (Nat × Jvm.ClassFile.Instr × Nat) := [(0, .aload_n 0, 1), (1, .getfield 26, 3), (4, .iload_n 1, 1), (5, .invokevirtual 242, 3), (8, .ifCond .eq 12, 3), (11, .iload_n 2, 1), (12, .iconst 0, 1), (13, .iconst 1, 1), (14, .invokestatic 126, 3), (17, .ifCond .ne 9, 3), (20, .aload_n 0, 1), (21, .iconst 1, 1), (22, .invokevirtual 110, 3), (25, .ireturn, 1), (26, .iload_n 2, 1), (27, .ifCond .ne 17, 3), (30, .aload_n 0, 1), (31, .aload_n 0, 1), (32, .getfield 26, 3), (35, .getfield 245, 3), (38, .iload_n 1, 1), (39, .iaload, 1), (40, .invokevirtual 114, 3), (43, .ireturn, 1), (44, .aload_n 0, 1), (45, .aload_n 0, 1), (46, .getfield 26, 3), (49, .iload_n 1, 1), (50, .invokevirtual 249, 3), (53, .bipush 6, 2), (55, .invokevirtual 252, 3), (58, .ireturn, 1)]
set_option maxRecDepth 100000 in
theorem dt_X10_corner : ∀ q ∈ tb_X10_corner, decode cX10_corner q.1 = .ok q.2 := by decide +kernel
def tb_X10_rank : List (Nat × Jvm.ClassFile.Instr × Nat) := [(0, .aload_n 0, 1), (1, .getfield 26, 3), (4, .iload_n 1, 1), (5, .invokevirtual 255, 3), (8, .ifCond .eq 12, 3), (11, .iload_n 2, 1), (12, .iconst 0, 1), (13, .iconst 2, 1), (14, .invokestatic 126, 3), (17, .ifCond .ne 9, 3), (20, .aload_n 0, 1), (21, .iconst 1, 1), (22, .invokevirtual 110, 3), (25, .ireturn, 1), (26, .iload_n 2, 1), (27, .lookupswitch 53 #[(0, 25), (1, 39)], 25), (52, .aload_n 0, 1), (53, .aload_n 0, 1), (54, .getfield 26, 3), (57, .getfield 258, 3), (60, .iload_n 1, 1), (61, .iaload, 1), (62, .invokevirtual 114, 3), (65, .ireturn, 1), (66, .aload_n 0, 1), (67, .aload_n 0, 1), (68, .getfield 26, 3), (71, .getfield 260, 3), (74, .iload_n 1, 1), (75, .iaload, 1), (76, .invokevirtual 114, 3), (79, .ireturn, 1), (80, .aload_n 0, 1), (81, .aload_n 0, 1), (82, .getfield 26, 3), (85, .iload_n 1, 1), (86, .invokevirtual 263, 3), (89, .invokevirtual 114, 3), (92, .ireturn, 1)]
set_option maxRecDepth 100000 in
theorem dt_X10_rank : ∀ q ∈ tb_X10_rank, decode cX10_rank q.1 = .ok q.2 := by decide +kernel
def tb_X10_clerk : List (Nat × Jvm.ClassFile.Instr × Nat) := [(0, .aload_n 0, 1), (1, .getfield 26, 3), (4, .iload_n 1, 1), (5, .invokevirtual 266, 3), (8, .ifCond .eq 13, 3), (11, .iload_n 2, 1), (12, .iconst 0, 1), (13, .bipush 6, 2), (15, .invokestatic 126, 3), (18, .ifCond .ne 9, 3), (21, .aload_n 0, 1), (22, .iconst 1, 1), (23, .invokevirtual 110, 3), (26, .ireturn, 1), (27, .iload_n 2, 1), (28, .tableswitch 123 0 5 #[40, 54, 68, 82, 96, 109], 40), (68, .aload_n 0, 1), (69, .aload_n 0, 1), (70, .getfield 26, 3), (73, .getfield 269, 3), (76, .iload_n 1, 1), (77, .iaload, 1), (78, .invokevirtual 114, 3), (81, .ireturn, 1), (82, .aload_n 0, 1), (83, .aload_n 0, 1), (84, .getfield 26, 3), (87, .getfield 272, 3), (90, .iload_n 1, 1), (91, .iaload, 1), (92, .invokevirtual 114, 3), (95, .ireturn, 1), (96, .aload_n 0, 1), (97, .aload_n 0, 1), (98, .getfield 26, 3), (101, .getfield 275, 3), (104, .iload_n 1, 1), (105, .iaload, 1), (106, .invokevirtual 114, 3), (109, .ireturn, 1), (110, .aload_n 0, 1), (111, .aload_n 0, 1), (112, .getfield 26, 3), (115, .getfield 278, 3), (118, .iload_n 1, 1), (119, .iaload, 1), (120, .invokevirtual 114, 3), (123, .ireturn, 1), (124, .aload_n 0, 1), (125, .aload_n 0, 1), (126, .getfield 26, 3), (129, .iload_n 1, 1), (130, .invokevirtual 281, 3), (133, .invokevirtual 114, 3), (136, .ireturn, 1), (137, .aload_n 0, 1), (138, .aload_n 0, 1), (139, .getfield 26, 3), (142, .getfield 284, 3), (145, .iload_n 1, 1), (146, .iaload, 1), (147, .invokevirtual 114, 3), (150, .ireturn, 1), (151, .aload_n 0, 1), (152, .aload_n 0, 1), (153, .getfield 26, 3), (156, .getfield 287, 3), (159, .iload_n 1, 1), (160, .iaload, 1), (161, .invokevirtual 114, 3), (164, .ireturn, 1)]
set_option maxRecDepth 100000 in
theorem dt_X10_clerk : ∀ q ∈ tb_X10_clerk, decode cX10_clerk q.1 = .ok q.2 := by decide +kernel
def tb_X10_rankOf : List (Nat × Jvm.ClassFile.Instr × Nat) := [(0, .aload_n 0, 1), (1, .getfield 26, 3), (4, .iload_n 1, 1), (5, .invokevirtual 266, 3), (8, .ifCond .ne 9, 3), (11, .aload_n 0, 1), (12, .iconst 1, 1), (13, .invokevirtual 110, 3), (16, .ireturn, 1), (17, .aload_n 0, 1), (18, .aload_n 0, 1), (19, .getfield 26, 3), (22, .aload_n 0, 1), (23, .getfield 26, 3), (26, .iload_n 1, 1), (27, .invokevirtual 281, 3), (30, .invokevirtual 290, 3), (33, .bipush 6, 2), (35, .invokevirtual 252, 3), (38, .ireturn, 1)]
set_option maxRecDepth 100000 in
theorem dt_X10_rankOf : ∀ q ∈ tb_X10_rankOf, decode cX10_rankOf q.1 = .ok q.2 := by decide +kernel
def tb_X10_client : List (Nat × Jvm.ClassFile.Instr × Nat) := [(0, .aload_n 0, 1), (1, .getfield 26, 3), (4, .iload_n 1, 1), (5, .invokevirtual 293, 3), (8, .ifCond .eq 12, 3), (11, .iload_n 2, 1), (12, .iconst 0, 1), (13, .iconst 1, 1), (14, .invokestatic 126, 3), (17, .ifCond .ne 9, 3), (20, .aload_n 0, 1), (21, .iconst 1, 1), (22, .invokevirtual 110, 3), (25, .ireturn, 1), (26, .aload_n 0, 1), (27, .iload_n 2, 1), (28, .ifCond .ne 15, 3), (31, .aload_n 0, 1), (32, .getfield 26, 3), (35, .getfield 296, 3), (38, .iload_n 1, 1), (39, .iaload, 1), (40, .goto 12, 3), (43, .aload_n 0, 1), (44, .getfield 26, 3), (47, .getfield 299, 3), (50, .iload_n 1, 1), (51, .iaload, 1), (52, .invokevirtual 114, 3), (55, .ireturn, 1)]
set_option maxRecDepth 100000 in
theorem dt_X10_client : ∀ q ∈ tb_X10_client, decode cX10_client q.1 = .ok q.2 := by decide +kernel
def tb_X10_year : List (Nat × Jvm.ClassFile.Instr × Nat) := [(0, .iload_n 1, 1), (1, .iconst 1, 1), (2, .bipush 99, 2), (4, .invokestatic 126, 3), (7, .ifCond .ne 9, 3), (10, .aload_n 0, 1), (11, .iconst 1, 1), (12, .invokevirtual 110, 3), (15, .ireturn, 1), (16, .aload_n 0, 1), (17, .aload_n 0, 1), (18, .getfield 26, 3), (21, .iload_n 1, 1), (22, .invokevirtual 302, 3), (25, .iconst 4, 1), (26, .invokevirtual 252, 3), (29, .ireturn, 1)]
set_option maxRecDepth 100000 in
theorem dt_X10_year : ∀ q ∈ tb_X10_year, decode cX10_year q.1 = .ok q.2 := by decide +kernel
def tb_X10_move : List (Nat × Jvm.ClassFile.Instr × Nat) := [(0, .aload_n 0, 1), (1, .getfield 26, 3), (4, .iload_n 1, 1), (5, .invokevirtual 266, 3), (8, .ifCond .eq 14, 3), (11, .aload_n 0, 1), (12, .getfield 26, 3), (15, .iload_n 2, 1), (16, .invokevirtual 242, 3), (19, .ifCond .ne 9, 3), (22, .aload_n 0, 1), (23, .iconst 1, 1), (24, .invokevirtual 110, 3), (27, .ireturn, 1), (28, .aload_n 0, 1), (29, .aload_n 0, 1), (30, .getfield 26, 3), (33, .iload_n 1, 1), (34, .iload_n 2, 1), (35, .invokevirtual 305, 3), (38, .bipush 7, 2), (40, .invokevirtual 252, 3), (43, .ireturn, 1)]
set_option maxRecDepth 100000 in
theorem dt_X10_move : ∀ q ∈ tb_X10_move, decode cX10_move q.1 = .ok q.2 := by decide +kernel
def tb_X10_areTwo : List (Nat × Jvm.ClassFile.Instr × Nat) := [(0, .aload_n 0, 1), (1, .getfield 26, 3), (4, .iload_n 1, 1), (5, .invokevirtual 266, 3), (8, .ifCond .eq 23, 3), (11, .aload_n 0, 1), (12, .getfield 26, 3), (15, .iload_n 2, 1), (16, .invokevirtual 266, 3), (19, .ifCond .eq 12, 3), (22, .iload_n 1, 1), (23, .iload_n 2, 1), (24, .if_icmp .eq 7, 3), (27, .iconst 1, 1), (28, .goto 4, 3), (31, .iconst 0, 1), (32, .ireturn, 1)]
set_option maxRecDepth 100000 in
theorem dt_X10_areTwo : ∀ q ∈ tb_X10_areTwo, decode cX10_areTwo q.1 = .ok q.2 := by decide +kernel
def tb_X10_swap : List (Nat × Jvm.ClassFile.Instr × Nat) := [(0, .aload_n 0, 1), (1, .iload_n 1, 1), (2, .iload_n 2, 1), (3, .invokevirtual 308, 3), (6, .ifCond .ne 9, 3), (9, .aload_n 0, 1), (10, .iconst 1, 1), (11, .invokevirtual 110, 3), (14, .ireturn, 1), (15, .aload_n 0, 1), (16, .aload_n 0, 1), (17, .getfield 26, 3), (20, .iload_n 1, 1), (21, .iload_n 2, 1), (22, .invokevirtual 311, 3), (25, .bipush 7, 2), (27, .invokevirtual 252, 3), (30, .ireturn, 1)]
set_option maxRecDepth 100000 in
theorem dt_X10_swap : ∀ q ∈ tb_X10_swap, decode cX10_swap q.1 = .ok q.2 := by decide +kernel
def tb_X10_fan : List (Nat × Jvm.ClassFile.Instr × Nat) := [(0, .aload_n 0, 1), (1, .getfield 26, 3), (4, .iload_n 1, 1), (5, .invokevirtual 266, 3), (8, .ifCond .eq 13, 3), (11, .iload_n 2, 1), (12, .iconst 1, 1), (13, .bipush 50, 2), (15, .invokestatic 126, 3), (18, .ifCond .ne 9, 3), (21, .aload_n 0, 1), (22, .iconst 1, 1), (23, .invokevirtual 110, 3), (26, .ireturn, 1), (27, .aload_n 0, 1), (28, .aload_n 0, 1), (29, .getfield 26, 3), (32, .iload_n 1, 1), (33, .iload_n 2, 1), (34, .invokevirtual 314, 3), (37, .bipush 7, 2), (39, .invokevirtual 252, 3), (42, .ireturn, 1)]
set_option maxRecDepth 100000 in
theorem dt_X10_fan : ∀ q ∈ tb_X10_fan, decode cX10_fan q.1 = .ok q.2 := by decide +kernel
def tb_X10_dust : List (Nat × Jvm.ClassFile.Instr × Nat) := [(0, .aload_n 0, 1), (1, .getfield 26, 3), (4, .iload_n 1, 1), (5, .invokevirtual 266, 3), (8, .ifCond .ne 9, 3), (11, .aload_n 0, 1), (12, .iconst 1, 1), (13, .invokevirtual 110, 3), (16, .ireturn, 1), (17, .aload_n 0, 1), (18, .aload_n 0, 1), (19, .getfield 26, 3), (22, .iload_n 1, 1), (23, .invokevirtual 317, 3), (26, .bipush 7, 2), (28, .invokevirtual 252, 3), (31, .ireturn, 1)]
set_option maxRecDepth 100000 in
theorem dt_X10_dust : ∀ q ∈ tb_X10_dust, decode cX10_dust q.1 = .ok q.2 := by decide +kernel
def tb_X10_look : List (Nat × Jvm.ClassFile.Instr × Nat) := [(0, .aload_n 0, 1), (1, .getfield 26, 3), (4, .iload_n 1, 1), (5, .invokevirtual 266, 3), (8, .ifCond .ne 9, 3), (11, .aload_n 0, 1), (12, .iconst 1, 1), (13, .invokevirtual 110, 3), (16, .ireturn, 1), (17, .aload_n 0, 1), (18, .aload_n 0, 1), (19, .getfield 26, 3), (22, .iload_n 1, 1), (23, .invokevirtual 320, 3), (26, .bipush 7, 2), (28, .invokevirtual 252, 3), (31, .ireturn, 1)]
set_option maxRecDepth 100000 in
theorem dt_X10_look : ∀ q ∈ tb_X10_look, decode cX10_look q.1 = .ok q.2 := by decide +kernel
def tb_X10_run : List (Nat × Jvm.ClassFile.Instr × Nat) := [(0, .aload_n 0, 1), (1, .aload_n 0, 1), (2, .getfield 26, 3), (5, .invokevirtual 323, 3), (8, .bipush 7, 2), (10, .invokevirtual 252, 3), (13, .ireturn, 1)]
set_option maxRecDepth 100000 in
theorem dt_X10_run : ∀ q ∈ tb_X10_run, decode cX10_run q.1 = .ok q.2 := by decide +kernel
def tb_X10_hire : List (Nat × Jvm.ClassFile.Instr × Nat) := [(0, .aload_n 0, 1), (1, .getfield 26, 3), (4, .iload_n 1, 1), (5, .invokevirtual 242, 3), (8, .ifCond .ne 9, 3), (11, .aload_n 0, 1), (12, .iconst 1, 1), (13, .invokevirtual 110, 3), (16, .ireturn, 1), (17, .aload_n 0, 1), (18, .getfield 26, 3), (21, .getfield 190, 3), (24, .bipush 6, 2), (26, .if_icmp .lt 9, 3), (29, .aload_n 0, 1), (30, .iconst 4, 1), (31, .invokevirtual 110, 3), (34, .ireturn, 1), (35, .aload_n 0, 1), (36, .getfield 26, 3), (39, .iload_n 1, 1), (40, .invokevirtual 249, 3), (43, .iconst (-1), 1), (44, .if_icmp .eq 10, 3), (47, .aload_n 0, 1), (48, .bipush 7, 2), (50, .invokevirtual 110, 3), (53, .ireturn, 1), (54, .aload_n 0, 1), (55, .aload_n 0, 1), (56, .getfield 26, 3), (59, .lconst 0, 1), (60, .iload_n 1, 1), (61, .invokevirtual 326, 3), (64, .invokevirtual 114, 3), (67, .ireturn, 1)]
set_option maxRecDepth 100000 in
theorem dt_X10_hire : ∀ q ∈ tb_X10_hire, decode cX10_hire q.1 = .ok q.2 := by decide +kernel
def tb_X10_open : List (Nat × Jvm.ClassFile.Instr × Nat) := [(0, .iload_n 1, 1), (1, .iconst 1, 1), (2, .bipush 99, 2), (4, .invokestatic 126, 3), (7, .ifCond .eq 14, 3), (10, .iload_n 2, 1), (11, .iconst 0, 1), (12, .sipush 999, 3), (15, .invokestatic 126, 3), (18, .ifCond .ne 9, 3), (21, .aload_n 0, 1), (22, .iconst 1, 1), (23, .invokevirtual 110, 3), (26, .ireturn, 1), (27, .aload_n 0, 1), (28, .getfield 26, 3), (31, .getfield 217, 3), (34, .bipush 8, 2), (36, .if_icmp .lt 9, 3), (39, .aload_n 0, 1), (40, .iconst 4, 1), (41, .invokevirtual 110, 3), (44, .ireturn, 1), (45, .aload_n 0, 1), (46, .getfield 26, 3), (49, .sipush 9999, 3), (52, .aload_n 0, 1), (53, .getfield 26, 3), (56, .getfield 223, 3), (59, .iload_n 1, 1), (60, .iadd, 1), (61, .invokestatic 330, 3), (64, .putfield 223, 3), (67, .aload_n 0, 1), (68, .aload_n 0, 1), (69, .getfield 26, 3), (72, .iload_n 1, 1), (73, .iload_n 2, 1), (74, .invokevirtual 335, 3), (77, .invokevirtual 114, 3), (80, .ireturn, 1)]
set_option maxRecDepth 100000 in
theorem dt_X10_open : ∀ q ∈ tb_X10_open, decode cX10_open q.1 = .ok q.2 := by decide +kernel
def tb_X10_calm : List (Nat × Jvm.ClassFile.Instr × Nat) := [(0, .aload_n 0, 1), (1, .getfield 26, 3), (4, .iload_n 1, 1), (5, .invokevirtual 242, 3), (8, .ifCond .eq 13, 3), (11, .iload_n 2, 1), (12, .iconst 0, 1), (13, .bipush 9, 2), (15, .invokestatic 126, 3), (18, .ifCond .ne 9, 3), (21, .aload_n 0, 1), (22, .iconst 1, 1), (23, .invokevirtual 110, 3), (26, .ireturn, 1), (27, .aload_n 0, 1), (28, .getfield 26, 3), (31, .getfield 245, 3), (34, .iload_n 1, 1), (35, .iaload, 1), (36, .istore_n 3, 1), (37, .aload_n 0, 1), (38, .getfield 26, 3), (41, .getfield 245, 3), (44, .iload_n 1, 1), (45, .iload_n 2, 1), (46, .iastore, 1), (47, .aload_n 0, 1), (48, .iload_n 3, 1), (49, .invokevirtual 114, 3), (52, .ireturn, 1)]
set_option maxRecDepth 100000 in
theorem dt_X10_calm : ∀ q ∈ tb_X10_calm, decode cX10_calm q.1 = .ok q.2 := by decide +kernel
def tb_X10_rule : List (Nat × Jvm.ClassFile.Instr × Nat) := [(0, .iload_n 1, 1), (1, .iconst 4, 1), (2, .if_icmp .ne 26, 3), (5, .iload_n 2, 1), (6, .iconst 0, 1), (7, .bipush 16, 2), (9, .invokestatic 126, 3), (12, .ifCond .eq 16, 3), (15, .aload_n 0, 1), (16, .getfield 26, 3), (19, .iload_n 2, 1), (20, .putfield 220, 3), (23, .aload_n 0, 1), (24, .invokevirtual 117, 3), (27, .ireturn, 1), (28, .iload_n 1, 1), (29, .iconst 5, 1), (30, .if_icmp .ne 27, 3), (33, .iload_n 2, 1), (34, .iconst 0, 1), (35, .sipush 9999, 3), (38, .invokestatic 126, 3), (41, .ifCond .eq 16, 3), (44, .aload_n 0, 1), (45, .getfield 26, 3), (48, .iload_n 2, 1), (49, .putfield 223, 3), (52, .aload_n 0, 1), (53, .invokevirtual 117, 3), (56, .ireturn, 1), (57, .aload_n 0, 1), (58, .iconst 1, 1), (59, .invokevirtual 134, 3), (62, .ireturn, 1)]
set_option maxRecDepth 100000 in
theorem dt_X10_rule : ∀ q ∈ tb_X10_rule, decode cX10_rule q.1 = .ok q.2 := by decide +kernel
def tb_X10_greyIn : List (Nat × Jvm.ClassFile.Instr × Nat) := [(0, .aload_n 0, 1), (1, .getfield 26, 3), (4, .iload_n 1, 1), (5, .invokevirtual 266, 3), (8, .ifCond .eq 11, 3), (11, .aload_n 0, 1), (12, .iload_n 2, 1), (13, .invokevirtual 338, 3), (16, .ifCond .ne 9, 3), (19, .aload_n 0, 1), (20, .iconst 1, 1), (21, .invokevirtual 110, 3), (24, .ireturn, 1), (25, .aload_n 0, 1), (26, .aload_n 0, 1), (27, .getfield 26, 3), (30, .iload_n 1, 1), (31, .iload_n 2, 1), (32, .invokevirtual 341, 3), (35, .invokevirtual 114, 3), (38, .ireturn, 1)]
set_option maxRecDepth 100000 in
theorem dt_X10_greyIn : ∀ q ∈ tb_X10_greyIn, decode cX10_greyIn q.1 = .ok q.2 := by decide +kernel
def tb_X10_rankIn : List (Nat × Jvm.ClassFile.Instr × Nat) := [(0, .aload_n 0, 1), (1, .getfield 26, 3), (4, .iload_n 1, 1), (5, .invokevirtual 266, 3), (8, .ifCond .eq 11, 3), (11, .aload_n 0, 1), (12, .iload_n 2, 1), (13, .invokevirtual 338, 3), (16, .ifCond .ne 9, 3), (19, .aload_n 0, 1), (20, .iconst 1, 1), (21, .invokevirtual 110, 3), (24, .ireturn, 1), (25, .aload_n 0, 1), (26, .getfield 26, 3), (29, .iload_n 1, 1), (30, .iload_n 2, 1), (31, .invokevirtual 341, 3), (34, .aload_n 0, 1), (35, .getfield 26, 3), (38, .getfield 278, 3), (41, .iload_n 1, 1), (42, .iaload, 1), (43, .invokestatic 344, 3), (46, .istore_n 3, 1), (47, .aload_n 0, 1), (48, .aload_n 0, 1), (49, .getfield 26, 3), (52, .iload_n 3, 1), (53, .invokevirtual 290, 3), (56, .bipush 6, 2), (58, .invokevirtual 252, 3), (61, .ireturn, 1)]
set_option maxRecDepth 100000 in
theorem dt_X10_rankIn : ∀ q ∈ tb_X10_rankIn, decode cX10_rankIn q.1 = .ok q.2 := by decide +kernel
def tb_X10_unpaidIn : List (Nat × Jvm.ClassFile.Instr × Nat) := [(0, .aload_n 0, 1), (1, .getfield 30, 3), (4, .aload_n 0, 1), (5, .getfield 26, 3), (8, .invokevirtual 183, 3), (11, .aload_n 0, 1), (12, .getfield 30, 3), (15, .invokevirtual 229, 3), (18, .istore_n 1, 1), (19, .iconst 1, 1), (20, .istore_n 2, 1), (21, .iload_n 2, 1), (22, .bipush 99, 2), (24, .if_icmp .gt 34, 3), (27, .aload_n 0, 1), (28, .getfield 30, 3), (31, .invokevirtual 347, 3), (34, .pop, 1), (35, .aload_n 0, 1), (36, .getfield 30, 3), (39, .invokevirtual 229, 3), (42, .iload_n 1, 1), (43, .if_icmp .le 9, 3), (46, .aload_n 0, 1), (47, .iload_n 2, 1), (48, .invokevirtual 114, 3), (51, .ireturn, 1), (52, .iinc 2 1, 3), (55, .goto (-34), 3), (58, .aload_n 0, 1), (59, .bipush 6, 2), (61, .invokevirtual 110, 3), (64, .ireturn, 1)]
set_option maxRecDepth 100000 in
theorem dt_X10_unpaidIn : ∀ q ∈ tb_X10_unpaidIn, decode cX10_unpaidIn q.1 = .ok q.2 := by decide +kernel
def tb_X10_cashIn : List (Nat × Jvm.ClassFile.Instr × Nat) := [(0, .aload_n 0, 1), (1, .iload_n 1, 1), (2, .invokevirtual 338, 3), (5, .ifCond .ne 9, 3), (8, .aload_n 0, 1), (9, .iconst 1, 1), (10, .invokevirtual 110, 3), (13, .ireturn, 1), (14, .aload_n 0, 1), (15, .getfield 30, 3), (18, .aload_n 0, 1), (19, .getfield 26, 3), (22, .invokevirtual 183, 3), (25, .iconst 0, 1), (26, .istore_n 2, 1), (27, .iload_n 2, 1), (28, .iload_n 1, 1), (29, .if_icmp .ge 17, 3), (32, .aload_n 0, 1), (33, .getfield 30, 3), (36, .invokevirtual 347, 3), (39, .pop, 1), (40, .iinc 2 1, 3), (43, .goto (-16), 3), (46, .aload_n 0, 1), (47, .aload_n 0, 1), (48, .getfield 30, 3), (51, .getfield 223, 3), (54, .invokevirtual 114, 3), (57, .ireturn, 1)]
set_option maxRecDepth 100000 in
theorem dt_X10_cashIn : ∀ q ∈ tb_X10_cashIn, decode cX10_cashIn q.1 = .ok q.2 := by decide +kernel
def tb_X10_seating : List (Nat × Jvm.ClassFile.Instr × Nat) := [(0, .aload_n 0, 1), (1, .iload_n 1, 1), (2, .invokevirtual 338, 3), (5, .ifCond .ne 9, 3), (8, .aload_n 0, 1), (9, .iconst 1, 1), (10, .invokevirtual 110, 3), (13, .ireturn, 1), (14, .aload_n 0, 1), (15, .aload_n 0, 1), (16, .getfield 80, 3), (19, .aload_n 0, 1), (20, .getfield 26, 3), (23, .iload_n 1, 1), (24, .invokevirtual 350, 3), (27, .invokevirtual 114, 3), (30, .ireturn, 1)]
set_option maxRecDepth 100000 in
theorem dt_X10_seating : ∀ q ∈ tb_X10_seating, decode cX10_seating q.1 = .ok q.2 := by decide +kernel
def tb_X10_seatOf : List (Nat × Jvm.ClassFile.Instr × Nat) := [(0, .aload_n 0, 1), (1, .iload_n 1, 1), (2, .invokevirtual 338, 3), (5, .ifCond .eq 14, 3), (8, .aload_n 0, 1), (9, .getfield 26, 3), (12, .iload_n 2, 1), (13, .invokevirtual 266, 3), (16, .ifCond .ne 9, 3), (19, .aload_n 0, 1), (20, .iconst 1, 1), (21, .invokevirtual 110, 3), (24, .ireturn, 1), (25, .aload_n 0, 1), (26, .aload_n 0, 1), (27, .getfield 80, 3), (30, .aload_n 0, 1), (31, .getfield 26, 3), (34, .iload_n 1, 1), (35, .iload_n 2, 1), (36, .invokevirtual 354, 3), (39, .invokevirtual 114, 3), (42, .ireturn, 1)]
set_option maxRecDepth 100000 in
theorem dt_X10_seatOf : ∀ q ∈ tb_X10_seatOf, decode cX10_seatOf q.1 = .ok q.2 := by decide +kernel
def tb_X10_isSwapLiked : List (Nat × Jvm.ClassFile.Instr × Nat) := [(0, .aload_n 0, 1), (1, .getfield 26, 3), (4, .iload_n 2, 1), (5, .iload_n 1, 1), (6, .invokevirtual 341, 3), (9, .aload_n 0, 1), (10, .getfield 26, 3), (13, .iload_n 3, 1), (14, .iload_n 1, 1), (15, .invokevirtual 341, 3), (18, .iadd, 1), (19, .istore 4, 2), (21, .aload_n 0, 1), (22, .getfield 26, 3), (25, .iload_n 2, 1), (26, .aload_n 0, 1), (27, .getfield 26, 3), (30, .getfield 269, 3), (33, .iload_n 3, 1), (34, .iaload, 1), (35, .iload_n 1, 1), (36, .invokevirtual 361, 3), (39, .aload_n 0, 1), (40, .getfield 26, 3), (43, .iload_n 3, 1), (44, .aload_n 0, 1), (45, .getfield 26, 3), (48, .getfield 269, 3), (51, .iload_n 2, 1), (52, .iaload, 1), (53, .iload_n 1, 1), (54, .invokevirtual 361, 3), (57, .iadd, 1), (58, .istore 5, 2), (60, .iload 5, 2), (62, .iload 4, 2), (64, .if_icmp .le 7, 3), (67, .iconst 1, 1), (68, .goto 4, 3), (71, .iconst 0, 1), (72, .ireturn, 1)]
set_option maxRecDepth 100000 in
theorem dt_X10_isSwapLiked : ∀ q ∈ tb_X10_isSwapLiked, decode cX10_isSwapLiked q.1 = .ok q.2 := by decide +kernel
def tb_X10_liked : List (Nat × Jvm.ClassFile.Instr × Nat) := [(0, .aload_n 0, 1), (1, .iload_n 1, 1), (2, .invokevirtual 338, 3), (5, .ifCond .ne 9, 3), (8, .aload_n 0, 1), (9, .iconst 1, 1), (10, .invokevirtual 110, 3), (13, .ireturn, 1), (14, .iconst 0, 1), (15, .istore_n 2, 1), (16, .iconst 0, 1), (17, .istore_n 3, 1), (18, .iload_n 3, 1), (19, .aload_n 0, 1), (20, .getfield 26, 3), (23, .getfield 190, 3), (26, .if_icmp .ge 46, 3), (29, .iload_n 3, 1), (30, .iconst 1, 1), (31, .iadd, 1), (32, .istore 4, 2), (34, .iload 4, 2), (36, .aload_n 0, 1), (37, .getfield 26, 3), (40, .getfield 190, 3), (43, .if_icmp .ge 23, 3), (46, .aload_n 0, 1), (47, .iload_n 1, 1), (48, .iload_n 3, 1), (49, .iload 4, 2), (51, .invokevirtual 358, 3), (54, .ifCond .eq 6, 3), (57, .iinc 2 1, 3), (60, .iinc 4 1, 3), (63, .goto (-29), 3), (66, .iinc 3 1, 3), (69, .goto (-51), 3), (72, .aload_n 0, 1), (73, .iload_n 2, 1), (74, .invokevirtual 114, 3), (77, .ireturn, 1)]
set_option maxRecDepth 100000 in
theorem dt_X10_liked : ∀ q ∈ tb_X10_liked, decode cX10_liked q.1 = .ok q.2 := by decide +kernel
def tb_X10_isLiked : List (Nat × Jvm.ClassFile.Instr × Nat) := [(0, .aload_n 0, 1), (1, .iload_n 1, 1), (2, .invokevirtual 338, 3), (5, .ifCond .eq 12, 3), (8, .aload_n 0, 1), (9, .iload_n 2, 1), (10, .iload_n 3, 1), (11, .invokevirtual 308, 3), (14, .ifCond .ne 9, 3), (17, .aload_n 0, 1), (18, .iconst 1, 1), (19, .invokevirtual 110, 3), (22, .ireturn, 1), (23, .aload_n 0, 1), (24, .aload_n 0, 1), (25, .iload_n 1, 1), (26, .iload_n 2, 1), (27, .iload_n 3, 1), (28, .invokevirtual 358, 3), (31, .ifCond .eq 7, 3), (34, .iconst 1, 1), (35, .goto 4, 3), (38, .iconst 0, 1), (39, .invokevirtual 114, 3), (42, .ireturn, 1)]
set_option maxRecDepth 100000 in
theorem dt_X10_isLiked : ∀ q ∈ tb_X10_isLiked, decode cX10_isLiked q.1 = .ok q.2 := by decide +kernel
def tb_X10_yearsTill : List (Nat × Jvm.ClassFile.Instr × Nat) := [(0, .aload_n 0, 1), (1, .getfield 26, 3), (4, .iload_n 2, 1), (5, .invokevirtual 242, 3), (8, .ifCond .ne 5, 3), (11, .iconst (-1), 1), (12, .ireturn, 1), (13, .iload_n 2, 1), (14, .aload_n 0, 1), (15, .getfield 26, 3), (18, .getfield 269, 3), (21, .iload_n 1, 1), (22, .iaload, 1), (23, .if_icmp .ne 15, 3), (26, .aload_n 0, 1), (27, .getfield 26, 3), (30, .getfield 278, 3), (33, .iload_n 1, 1), (34, .iaload, 1), (35, .goto 4, 3), (38, .iconst 0, 1), (39, .istore 4, 2), (41, .iconst 0, 1), (42, .istore 5, 2), (44, .iload 5, 2), (46, .bipush 99, 2), (48, .if_icmp .gt 40, 3), (51, .aload_n 0, 1), (52, .getfield 26, 3), (55, .iload_n 1, 1), (56, .iload_n 2, 1), (57, .iload 5, 2), (59, .invokevirtual 361, 3), (62, .iload 4, 2), (64, .invokestatic 344, 3), (67, .aload_n 0, 1), (68, .getfield 26, 3), (71, .getfield 258, 3), (74, .iload_n 3, 1), (75, .iaload, 1), (76, .if_icmp .lt 6, 3), (79, .iload 5, 2), (81, .ireturn, 1), (82, .iinc 5 1, 3), (85, .goto (-41), 3), (88, .iconst (-1), 1), (89, .ireturn, 1)]
set_option maxRecDepth 100000 in
theorem dt_X10_yearsTill : ∀ q ∈ tb_X10_yearsTill, decode cX10_yearsTill q.1 = .ok q.2 := by decide +kernel
def tb_X10_soonestCorner : List (Nat × Jvm.ClassFile.Instr × Nat) := [(0, .iconst (-1), 1), (1, .istore_n 3, 1), (2, .aload_n 0, 1), (3, .iload_n 1, 1), (4, .aload_n 0, 1), (5, .getfield 26, 3), (8, .getfield 269, 3), (11, .iload_n 1, 1), (12, .iaload, 1), (13, .iload_n 2, 1), (14, .invokevirtual 368, 3), (17, .istore 4, 2), (19, .iload 4, 2), (21, .iconst (-1), 1), (22, .if_icmp .eq 13, 3), (25, .aload_n 0, 1), (26, .getfield 26, 3), (29, .getfield 269, 3), (32, .iload_n 1, 1), (33, .iaload, 1), (34, .istore_n 3, 1), (35, .iconst 0, 1), (36, .istore 5, 2), (38, .iload 5, 2), (40, .aload_n 0, 1), (41, .getfield 26, 3), (44, .getfield 211, 3), (47, .if_icmp .ge 58, 3), (50, .aload_n 0, 1), (51, .getfield 26, 3), (54, .iload 5, 2), (56, .invokevirtual 249, 3), (59, .iconst (-1), 1), (60, .if_icmp .ne 39, 3), (63, .aload_n 0, 1), (64, .iload_n 1, 1), (65, .iload 5, 2), (67, .iload_n 2, 1), (68, .invokevirtual 368, 3), (71, .istore 6, 2), (73, .iload 6, 2), (75, .iconst (-1), 1), (76, .if_icmp .eq 23, 3), (79, .iload 4, 2), (81, .iconst (-1), 1), (82, .if_icmp .eq 10, 3), (85, .iload 6, 2), (87, .iload 4, 2), (89, .if_icmp .ge 10, 3), (92, .iload 6, 2), (94, .istore 4, 2), (96, .iload 5, 2), (98, .istore_n 3, 1), (99, .iinc 5 1, 3), (102, .goto (-64), 3), (105, .iload_n 3, 1), (106, .ireturn, 1)]
set_option maxRecDepth 100000 in
theorem dt_X10_soonestCorner : ∀ q ∈ tb_X10_soonestCorner, decode cX10_soonestCorner q.1 = .ok q.2 := by decide +kernel
def tb_X10_soon : List (Nat × Jvm.ClassFile.Instr × Nat) := [(0, .aload_n 0, 1), (1, .getfield 26, 3), (4, .iload_n 1, 1), (5, .invokevirtual 266, 3), (8, .ifCond .eq 14, 3), (11, .aload_n 0, 1), (12, .getfield 26, 3), (15, .iload_n 2, 1), (16, .invokevirtual 255, 3), (19, .ifCond .ne 9, 3), (22, .aload_n 0, 1), (23, .iconst 1, 1), (24, .invokevirtual 110, 3), (27, .ireturn, 1), (28, .aload_n 0, 1), (29, .aload_n 0, 1), (30, .iload_n 1, 1), (31, .aload_n 0, 1), (32, .iload_n 1, 1), (33, .iload_n 2, 1), (34, .invokevirtual 365, 3), (37, .iload_n 2, 1), (38, .invokevirtual 368, 3), (41, .bipush 6, 2), (43, .invokevirtual 252, 3), (46, .ireturn, 1)]
set_option maxRecDepth 100000 in
theorem dt_X10_soon : ∀ q ∈ tb_X10_soon, decode cX10_soon q.1 = .ok q.2 := by decide +kernel
def tb_X10_soonAt : List (Nat × Jvm.ClassFile.Instr × Nat) := [(0, .aload_n 0, 1), (1, .getfield 26, 3), (4, .iload_n 1, 1), (5, .invokevirtual 266, 3), (8, .ifCond .eq 14, 3), (11, .aload_n 0, 1), (12, .getfield 26, 3), (15, .iload_n 2, 1), (16, .invokevirtual 255, 3), (19, .ifCond .ne 9, 3), (22, .aload_n 0, 1), (23, .iconst 1, 1), (24, .invokevirtual 110, 3), (27, .ireturn, 1), (28, .aload_n 0, 1), (29, .aload_n 0, 1), (30, .iload_n 1, 1), (31, .iload_n 2, 1), (32, .invokevirtual 365, 3), (35, .bipush 6, 2), (37, .invokevirtual 252, 3), (40, .ireturn, 1)]
set_option maxRecDepth 100000 in
theorem dt_X10_soonAt : ∀ q ∈ tb_X10_soonAt, decode cX10_soonAt q.1 = .ok q.2 := by decide +kernel
def tb_X10_payOver : List (Nat × Jvm.ClassFile.Instr × Nat) := [(0, .iconst 0, 1), (1, .istore 4, 2), (3, .iconst 0, 1), (4, .istore 5, 2), (6, .iload 5, 2), (8, .iload_n 3, 1), (9, .if_icmp .ge 35, 3), (12, .iload 4, 2), (14, .aload_n 0, 1), (15, .getfield 26, 3), (18, .aload_n 0, 1), (19, .getfield 26, 3), (22, .iload_n 1, 1), (23, .iload 5, 2), (25, .invokevirtual 341, 3), (28, .iload_n 2, 1), (29, .invokestatic 344, 3), (32, .invokevirtual 374, 3), (35, .iadd, 1), (36, .istore 4, 2), (38, .iinc 5 1, 3), (41, .goto (-35), 3), (44, .iload 4, 2), (46, .ireturn, 1)]
set_option maxRecDepth 100000 in
theorem dt_X10_payOver : ∀ q ∈ tb_X10_payOver, decode cX10_payOver q.1 = .ok q.2 := by decide +kernel
def tb_X10_worth : List (Nat × Jvm.ClassFile.Instr × Nat) := [(0, .aload_n 0, 1), (1, .getfield 26, 3), (4, .iload_n 1, 1), (5, .invokevirtual 266, 3), (8, .ifCond .eq 21, 3), (11, .iload_n 2, 1), (12, .iconst 0, 1), (13, .bipush 99, 2), (15, .invokestatic 126, 3), (18, .ifCond .eq 11, 3), (21, .aload_n 0, 1), (22, .iload_n 3, 1), (23, .invokevirtual 338, 3), (26, .ifCond .ne 9, 3), (29, .aload_n 0, 1), (30, .iconst 1, 1), (31, .invokevirtual 110, 3), (34, .ireturn, 1), (35, .aload_n 0, 1), (36, .getfield 26, 3), (39, .getfield 278, 3), (42, .iload_n 1, 1), (43, .iaload, 1), (44, .istore 4, 2), (46, .bipush 99, 2), (48, .iload 4, 2), (50, .iload_n 2, 1), (51, .iadd, 1), (52, .invokestatic 330, 3), (55, .istore 5, 2), (57, .aload_n 0, 1), (58, .aload_n 0, 1), (59, .iload_n 1, 1), (60, .iload 5, 2), (62, .iload_n 3, 1), (63, .invokevirtual 371, 3), (66, .aload_n 0, 1), (67, .iload_n 1, 1), (68, .iload 4, 2), (70, .iload_n 3, 1), (71, .invokevirtual 371, 3), (74, .isub, 1), (75, .invokevirtual 114, 3), (78, .ireturn, 1)]
set_option maxRecDepth 100000 in
theorem dt_X10_worth : ∀ q ∈ tb_X10_worth, decode cX10_worth q.1 = .ok q.2 := by decide +kernel
def tb_X10_leastFan : List (Nat × Jvm.ClassFile.Instr × Nat) := [(0, .aload_n 0, 1), (1, .getfield 26, 3), (4, .iload_n 1, 1), (5, .invokevirtual 266, 3), (8, .ifCond .eq 14, 3), (11, .aload_n 0, 1), (12, .getfield 26, 3), (15, .iload_n 2, 1), (16, .invokevirtual 255, 3), (19, .ifCond .ne 9, 3), (22, .aload_n 0, 1), (23, .iconst 1, 1), (24, .invokevirtual 110, 3), (27, .ireturn, 1), (28, .aload_n 0, 1), (29, .iconst 0, 1), (30, .aload_n 0, 1), (31, .getfield 26, 3), (34, .getfield 258, 3), (37, .iload_n 2, 1), (38, .iaload, 1), (39, .aload_n 0, 1), (40, .getfield 26, 3), (43, .iload_n 1, 1), (44, .invokevirtual 281, 3), (47, .isub, 1), (48, .invokestatic 377, 3), (51, .invokevirtual 114, 3), (54, .ireturn, 1)]
set_option maxRecDepth 100000 in
theorem dt_X10_leastFan : ∀ q ∈ tb_X10_leastFan, decode cX10_leastFan q.1 = .ok q.2 := by decide +kernel
def tb_X10_fits : List (Nat × Jvm.ClassFile.Instr × Nat) := [(0, .aload_n 0, 1), (1, .getfield 12, 3), (4, .iload_n 1, 1), (5, .iload_n 2, 1), (6, .invokevirtual 380, 3), (9, .istore_n 3, 1), (10, .iload_n 3, 1), (11, .ifCond .eq 9, 3), (14, .aload_n 0, 1), (15, .iload_n 3, 1), (16, .invokevirtual 110, 3), (19, .ireturn, 1), (20, .aload_n 0, 1), (21, .aload_n 0, 1), (22, .getfield 12, 3), (25, .iload_n 1, 1), (26, .iload_n 2, 1), (27, .invokevirtual 383, 3), (30, .invokestatic 386, 3), (33, .invokevirtual 114, 3), (36, .ireturn, 1)]
set_option maxRecDepth 100000 in
theorem dt_X10_fits : ∀ q ∈ tb_X10_fits, decode cX10_fits q.1 = .ok q.2 := by decide +kernel
def tb_X10_memberAt : List (Nat × Jvm.ClassFile.Instr × Nat) := [(0, .iload_n 1, 1), (1, .istore_n 2, 1), (2, .iconst 0, 1), (3, .istore_n 3, 1), (4, .iload_n 3, 1), (5, .bipush 9, 2), (7, .if_icmp .gt 26, 3), (10, .iload_n 0, 1), (11, .iconst 1, 1), (12, .iload_n 3, 1), (13, .ishl, 1), (14, .iand, 1), (15, .ifCond .eq 12, 3), (18, .iload_n 2, 1), (19, .ifCond .ne 5, 3), (22, .iload_n 3, 1), (23, .ireturn, 1), (24, .iinc 2 (-1), 3), (27, .iinc 3 1, 3), (30, .goto (-26), 3), (33, .iconst (-1), 1), (34, .ireturn, 1)]
set_option maxRecDepth 100000 in
theorem dt_X10_memberAt : ∀ q ∈ tb_X10_memberAt, decode cX10_memberAt q.1 = .ok q.2 := by decide +kernel
def tb_X10_fitsAt : List (Nat × Jvm.ClassFile.Instr × Nat) := [(0, .iload_n 3, 1), (1, .ifCond .ge 7, 3), (4, .iconst 1, 1), (5, .goto 12, 3), (8, .aload_n 0, 1), (9, .getfield 12, 3), (12, .iload_n 1, 1), (13, .iload_n 2, 1), (14, .invokevirtual 380, 3), (17, .istore 4, 2), (19, .iload 4, 2), (21, .ifCond .eq 10, 3), (24, .aload_n 0, 1), (25, .iload 4, 2), (27, .invokevirtual 110, 3), (30, .ireturn, 1), (31, .aload_n 0, 1), (32, .aload_n 0, 1), (33, .getfield 12, 3), (36, .iload_n 1, 1), (37, .iload_n 2, 1), (38, .invokevirtual 383, 3), (41, .iload_n 3, 1), (42, .invokestatic 391, 3), (45, .bipush 6, 2), (47, .invokevirtual 252, 3), (50, .ireturn, 1)]
set_option maxRecDepth 100000 in
theorem dt_X10_fitsAt : ∀ q ∈ tb_X10_fitsAt, decode cX10_fitsAt q.1 = .ok q.2 := by decide +kernel
def tb_X10_mostAlike : List (Nat × Jvm.ClassFile.Instr × Nat) := [(0, .iconst 0, 1), (1, .istore_n 2, 1), (2, .iconst 0, 1), (3, .istore_n 3, 1), (4, .iload_n 3, 1), (5, .bipush 9, 2), (7, .if_icmp .gt 63, 3), (10, .iconst 0, 1), (11, .istore 4, 2), (13, .iconst 0, 1), (14, .istore 5, 2), (16, .iload 5, 2), (18, .bipush 9, 2), (20, .if_icmp .gt 37, 3), (23, .iload_n 0, 1), (24, .iconst 1, 1), (25, .iload 5, 2), (27, .ishl, 1), (28, .iand, 1), (29, .ifCond .eq 22, 3), (32, .iconst 0, 1), (33, .iload 5, 2), (35, .iload_n 1, 1), (36, .invokestatic 397, 3), (39, .iconst 0, 1), (40, .iload_n 3, 1), (41, .iload_n 1, 1), (42, .invokestatic 397, 3), (45, .if_icmp .ne 6, 3), (48, .iinc 4 1, 3), (51, .iinc 5 1, 3), (54, .goto (-38), 3), (57, .iload_n 2, 1), (58, .iload 4, 2), (60, .invokestatic 377, 3), (63, .istore_n 2, 1), (64, .iinc 3 1, 3), (67, .goto (-63), 3), (70, .iload_n 2, 1), (71, .ireturn, 1)]
set_option maxRecDepth 100000 in
theorem dt_X10_mostAlike : ∀ q ∈ tb_X10_mostAlike, decode cX10_mostAlike q.1 = .ok q.2 := by decide +kernel
def tb_X10_ask : List (Nat × Jvm.ClassFile.Instr × Nat) := [(0, .aload_n 0, 1), (1, .getfield 12, 3), (4, .iload_n 1, 1), (5, .iload_n 2, 1), (6, .invokevirtual 380, 3), (9, .istore_n 3, 1), (10, .iload_n 3, 1), (11, .ifCond .eq 9, 3), (14, .aload_n 0, 1), (15, .iload_n 3, 1), (16, .invokevirtual 110, 3), (19, .ireturn, 1), (20, .aload_n 0, 1), (21, .getfield 12, 3), (24, .iload_n 1, 1), (25, .iload_n 2, 1), (26, .invokevirtual 383, 3), (29, .istore 4, 2), (31, .iload 4, 2), (33, .invokestatic 386, 3), (36, .iconst 2, 1), (37, .if_icmp .ge 10, 3), (40, .aload_n 0, 1), (41, .bipush 6, 2), (43, .invokevirtual 110, 3), (46, .ireturn, 1), (47, .iconst 1, 1), (48, .istore 5, 2), (50, .iconst 2, 1), (51, .istore 6, 2), (53, .iload 6, 2), (55, .bipush 20, 2), (57, .if_icmp .gt 30, 3), (60, .iload 4, 2), (62, .iload 6, 2), (64, .invokestatic 394, 3), (67, .iload 4, 2), (69, .iload 5, 2), (71, .invokestatic 394, 3), (74, .if_icmp .ge 7, 3), (77, .iload 6, 2), (79, .istore 5, 2), (81, .iinc 6 1, 3), (84, .goto (-31), 3), (87, .aload_n 0, 1), (88, .iload 5, 2), (90, .invokevirtual 114, 3), (93, .ireturn, 1)]
set_option maxRecDepth 100000 in
theorem dt_X10_ask : ∀ q ∈ tb_X10_ask, decode cX10_ask q.1 = .ok q.2 := by decide +kernel
def tb_X10_comes : List (Nat × Jvm.ClassFile.Instr × Nat) := [(0, .aload_n 0, 1), (1, .aload_n 0, 1), (2, .getfield 26, 3), (5, .iconst 0, 1), (6, .invokevirtual 400, 3), (9, .invokevirtual 114, 3), (12, .ireturn, 1)]
set_option maxRecDepth 100000 in
theorem dt_X10_comes : ∀ q ∈ tb_X10_comes, decode cX10_comes q.1 = .ok q.2 := by decide +kernel
def tb_X10_comesFor : List (Nat × Jvm.ClassFile.Instr × Nat) := [(0, .aload_n 0, 1), (1, .aload_n 0, 1), (2, .getfield 26, 3), (5, .aload_n 0, 1), (6, .getfield 26, 3), (9, .iconst 0, 1), (10, .invokevirtual 400, 3), (13, .invokevirtual 239, 3), (16, .invokevirtual 114, 3), (19, .ireturn, 1)]
set_option maxRecDepth 100000 in
theorem dt_X10_comesFor : ∀ q ∈ tb_X10_comesFor, decode cX10_comesFor q.1 = .ok q.2 := by decide +kernel
def tb_X10_leastCalmed : List (Nat × Jvm.ClassFile.Instr × Nat) := [(0, .iconst 1, 1), (1, .aload_n 0, 1), (2, .getfield 26, 3), (5, .getfield 217, 3), (8, .ishl, 1), (9, .iconst 1, 1), (10, .isub, 1), (11, .istore_n 1, 1), (12, .iload_n 1, 1), (13, .istore_n 2, 1), (14, .iconst 0, 1), (15, .istore_n 3, 1), (16, .iload_n 3, 1), (17, .iload_n 1, 1), (18, .if_icmp .gt 47, 3), (21, .iload_n 3, 1), (22, .invokestatic 386, 3), (25, .iload_n 2, 1), (26, .invokestatic 386, 3), (29, .if_icmp .ge 30, 3), (32, .aload_n 0, 1), (33, .getfield 26, 3), (36, .aload_n 0, 1), (37, .getfield 26, 3), (40, .iload_n 3, 1), (41, .invokevirtual 400, 3), (44, .invokevirtual 239, 3), (47, .aload_n 0, 1), (48, .getfield 26, 3), (51, .getfield 223, 3), (54, .if_icmp .gt 5, 3), (57, .iload_n 3, 1), (58, .istore_n 2, 1), (59, .iinc 3 1, 3), (62, .goto (-46), 3), (65, .iload_n 2, 1), (66, .ireturn, 1)]
set_option maxRecDepth 100000 in
theorem dt_X10_leastCalmed : ∀ q ∈ tb_X10_leastCalmed, decode cX10_leastCalmed q.1 = .ok q.2 := by decide +kernel
def tb_X10_calms : List (Nat × Jvm.ClassFile.Instr × Nat) := [(0, .aload_n 0, 1), (1, .aload_n 0, 1), (2, .invokevirtual 403, 3), (5, .invokestatic 386, 3), (8, .invokevirtual 114, 3), (11, .ireturn, 1)]
set_option maxRecDepth 100000 in
theorem dt_X10_calms : ∀ q ∈ tb_X10_calms, decode cX10_calms q.1 = .ok q.2 := by decide +kernel
def tb_X10_calmSet : List (Nat × Jvm.ClassFile.Instr × Nat) := [(0, .aload_n 0, 1), (1, .aload_n 0, 1), (2, .invokevirtual 403, 3), (5, .invokevirtual 114, 3), (8, .ireturn, 1)]
set_option maxRecDepth 100000 in
theorem dt_X10_calmSet : ∀ q ∈ tb_X10_calmSet, decode cX10_calmSet q.1 = .ok q.2 := by decide +kernel
def tb_X10_gainFrom : List (Nat × Jvm.ClassFile.Instr × Nat) := [(0, .iload_n 1, 1), (1, .aload_n 0, 1), (2, .getfield 421, 3), (5, .if_icmp .ge 8, 3), (8, .iload_n 1, 1), (9, .iconst 4, 1), (10, .if_icmp .lt 5, 3), (13, .iconst 0, 1), (14, .ireturn, 1), (15, .aload_n 0, 1), (16, .iload_n 1, 1), (17, .iconst 1, 1), (18, .iadd, 1), (19, .iload_n 2, 1), (20, .invokestatic 413, 3), (23, .istore_n 3, 1), (24, .iconst 0, 1), (25, .istore 4, 2), (27, .iload 4, 2), (29, .aload_n 0, 1), (30, .getfield 417, 3), (33, .if_icmp .ge 64, 3), (36, .iload_n 2, 1), (37, .iconst 1, 1), (38, .iload 4, 2), (40, .ishl, 1), (41, .iand, 1), (42, .ifCond .ne 49, 3), (45, .aload_n 0, 1), (46, .iload 4, 2), (48, .iload_n 1, 1), (49, .invokevirtual 418, 3), (52, .aload_n 0, 1), (53, .iload_n 1, 1), (54, .iconst 1, 1), (55, .iadd, 1), (56, .iload_n 2, 1), (57, .iconst 1, 1), (58, .iload 4, 2), (60, .ishl, 1), (61, .ior, 1), (62, .invokestatic 413, 3), (65, .iadd, 1), (66, .istore 5, 2), (68, .iload_n 1, 1), (69, .invokestatic 424, 3), (72, .ifCond .eq 12, 3), (75, .iload_n 3, 1), (76, .iload 5, 2), (78, .invokestatic 377, 3), (81, .goto 9, 3), (84, .iload_n 3, 1), (85, .iload 5, 2), (87, .invokestatic 330, 3), (90, .istore_n 3, 1), (91, .iinc 4 1, 3), (94, .goto (-67), 3), (97, .iload_n 3, 1), (98, .ireturn, 1)]
set_option maxRecDepth 100000 in
theorem dt_X10_gainFrom : ∀ q ∈ tb_X10_gainFrom, decode cX10_gainFrom q.1 = .ok q.2 := by decide +kernel
def tb_X10_game : List (Nat × Jvm.ClassFile.Instr × Nat) := [(0, .aload_n 0, 1), (1, .getfield 26, 3), (4, .iload_n 1, 1), (5, .invokevirtual 255, 3), (8, .ifCond .eq 12, 3), (11, .iload_n 2, 1), (12, .iconst 0, 1), (13, .iconst 4, 1), (14, .invokestatic 126, 3), (17, .ifCond .ne 9, 3), (20, .aload_n 0, 1), (21, .iconst 1, 1), (22, .invokevirtual 110, 3), (25, .ireturn, 1), (26, .aload_n 0, 1), (27, .getfield 87, 3), (30, .aload_n 0, 1), (31, .getfield 26, 3), (34, .aload_n 0, 1), (35, .getfield 26, 3), (38, .getfield 258, 3), (41, .iload_n 1, 1), (42, .iaload, 1), (43, .iload_n 2, 1), (44, .invokevirtual 406, 3), (47, .aload_n 0, 1), (48, .aload_n 0, 1), (49, .getfield 87, 3), (52, .invokevirtual 410, 3), (55, .aload_n 0, 1), (56, .getfield 87, 3), (59, .iconst 0, 1), (60, .iconst 0, 1), (61, .invokestatic 413, 3), (64, .iadd, 1), (65, .invokevirtual 114, 3), (68, .ireturn, 1)]
set_option maxRecDepth 100000 in
theorem dt_X10_game : ∀ q ∈ tb_X10_game, decode cX10_game q.1 = .ok q.2 := by decide +kernel
def tb_X10_who : List (Nat × Jvm.ClassFile.Instr × Nat) := [(0, .aload_n 0, 1), (1, .getfield 26, 3), (4, .iload_n 1, 1), (5, .invokevirtual 255, 3), (8, .ifCond .eq 12, 3), (11, .iload_n 2, 1), (12, .iconst 1, 1), (13, .iconst 4, 1), (14, .invokestatic 126, 3), (17, .ifCond .ne 9, 3), (20, .aload_n 0, 1), (21, .iconst 1, 1), (22, .invokevirtual 110, 3), (25, .ireturn, 1), (26, .aload_n 0, 1), (27, .getfield 87, 3), (30, .aload_n 0, 1), (31, .getfield 26, 3), (34, .aload_n 0, 1), (35, .getfield 26, 3), (38, .getfield 258, 3), (41, .iload_n 1, 1), (42, .iaload, 1), (43, .iload_n 2, 1), (44, .invokevirtual 406, 3), (47, .aload_n 0, 1), (48, .getfield 87, 3), (51, .iconst 0, 1), (52, .iconst 0, 1), (53, .invokestatic 413, 3), (56, .istore_n 3, 1), (57, .iconst 0, 1), (58, .istore 4, 2), (60, .iload 4, 2), (62, .aload_n 0, 1), (63, .getfield 87, 3), (66, .getfield 417, 3), (69, .if_icmp .ge 43, 3), (72, .aload_n 0, 1), (73, .getfield 87, 3), (76, .iload 4, 2), (78, .iconst 0, 1), (79, .invokevirtual 418, 3), (82, .aload_n 0, 1), (83, .getfield 87, 3), (86, .iconst 1, 1), (87, .iconst 1, 1), (88, .iload 4, 2), (90, .ishl, 1), (91, .invokestatic 413, 3), (94, .iadd, 1), (95, .iload_n 3, 1), (96, .if_icmp .ne 10, 3), (99, .aload_n 0, 1), (100, .iload 4, 2), (102, .invokevirtual 114, 3), (105, .ireturn, 1), (106, .iinc 4 1, 3), (109, .goto (-49), 3), (112, .aload_n 0, 1), (113, .bipush 6, 2), (115, .invokevirtual 110, 3), (118, .ireturn, 1)]
set_option maxRecDepth 100000 in
theorem dt_X10_who : ∀ q ∈ tb_X10_who, decode cX10_who q.1 = .ok q.2 := by decide +kernel
def tb_X10_power : List (Nat × Jvm.ClassFile.Instr × Nat) := [(0, .lconst 1, 1), (1, .lstore_n 2, 1), (2, .iconst 0, 1), (3, .istore 4, 2), (5, .iload 4, 2), (7, .iload_n 1, 1), (8, .if_icmp .ge 14, 3), (11, .lload_n 2, 1), (12, .iload_n 0, 1), (13, .i2l, 1), (14, .lmul, 1), (15, .lstore_n 2, 1), (16, .iinc 4 1, 3), (19, .goto (-14), 3), (22, .lload_n 2, 1), (23, .lreturn, 1)]
set_option maxRecDepth 100000 in
theorem dt_X10_power : ∀ q ∈ tb_X10_power, decode cX10_power q.1 = .ok q.2 := by decide +kernel
def tb_X10_waysOfShams : List (Nat × Jvm.ClassFile.Instr × Nat) := [(0, .aload_n 0, 1), (1, .getfield 26, 3), (4, .getfield 220, 3), (7, .iload_n 1, 1), (8, .invokestatic 431, 3), (11, .bipush 16, 2), (13, .aload_n 0, 1), (14, .getfield 26, 3), (17, .getfield 220, 3), (20, .isub, 1), (21, .aload_n 0, 1), (22, .getfield 26, 3), (25, .getfield 190, 3), (28, .iload_n 1, 1), (29, .isub, 1), (30, .invokestatic 431, 3), (33, .lmul, 1), (34, .lreturn, 1)]
set_option maxRecDepth 100000 in
theorem dt_X10_waysOfShams : ∀ q ∈ tb_X10_waysOfShams, decode cX10_waysOfShams q.1 = .ok q.2 := by decide +kernel
def tb_X10_shams : List (Nat × Jvm.ClassFile.Instr × Nat) := [(0, .iload_n 1, 1), (1, .iconst 0, 1), (2, .bipush 6, 2), (4, .invokestatic 126, 3), (7, .ifCond .ne 9, 3), (10, .aload_n 0, 1), (11, .iconst 1, 1), (12, .invokevirtual 134, 3), (15, .ireturn, 1), (16, .lconst 0, 1), (17, .lstore_n 2, 1), (18, .iconst 0, 1), (19, .istore 4, 2), (21, .iload 4, 2), (23, .iconst 1, 1), (24, .aload_n 0, 1), (25, .getfield 26, 3), (28, .getfield 190, 3), (31, .ishl, 1), (32, .if_icmp .ge 30, 3), (35, .iload 4, 2), (37, .invokestatic 386, 3), (40, .iload_n 1, 1), (41, .if_icmp .lt 15, 3), (44, .lload_n 2, 1), (45, .aload_n 0, 1), (46, .iload 4, 2), (48, .invokestatic 386, 3), (51, .invokevirtual 427, 3), (54, .ladd, 1), (55, .lstore_n 2, 1), (56, .iinc 4 1, 3), (59, .goto (-38), 3), (62, .aload_n 0, 1), (63, .lload_n 2, 1), (64, .bipush 16, 2), (66, .aload_n 0, 1), (67, .getfield 26, 3), (70, .getfield 190, 3), (73, .invokestatic 431, 3), (76, .invokevirtual 434, 3), (79, .ireturn, 1)]
set_option maxRecDepth 100000 in
theorem dt_X10_shams : ∀ q ∈ tb_X10_shams, decode cX10_shams q.1 = .ok q.2 := by decide +kernel
def tb_X10_share : List (Nat × Jvm.ClassFile.Instr × Nat) := [(0, .aload_n 0, 1), (1, .getfield 26, 3), (4, .iload_n 1, 1), (5, .invokevirtual 266, 3), (8, .ifCond .ne 9, 3), (11, .aload_n 0, 1), (12, .iconst 1, 1), (13, .invokevirtual 134, 3), (16, .ireturn, 1), (17, .aload_n 0, 1), (18, .getfield 26, 3), (21, .invokevirtual 236, 3), (24, .istore_n 2, 1), (25, .iload_n 2, 1), (26, .ifCond .ne 10, 3), (29, .aload_n 0, 1), (30, .bipush 6, 2), (32, .invokevirtual 134, 3), (35, .ireturn, 1), (36, .aload_n 0, 1), (37, .aload_n 0, 1), (38, .getfield 26, 3), (41, .getfield 275, 3), (44, .iload_n 1, 1), (45, .iaload, 1), (46, .i2l, 1), (47, .iload_n 2, 1), (48, .i2l, 1), (49, .invokevirtual 434, 3), (52, .ireturn, 1)]
set_option maxRecDepth 100000 in
theorem dt_X10_share : ∀ q ∈ tb_X10_share, decode cX10_share q.1 = .ok q.2 := by decide +kernel
def tb_X10_copyGrey : List (Nat × Jvm.ClassFile.Instr × Nat) := [(0, .aload_n 0, 1), (1, .getfield 12, 3), (4, .iload_n 1, 1), (5, .invokevirtual 130, 3), (8, .ifCond .ne 9, 3), (11, .aload_n 0, 1), (12, .iconst 1, 1), (13, .invokevirtual 110, 3), (16, .ireturn, 1), (17, .aload_n 0, 1), (18, .getfield 12, 3), (21, .iload_n 1, 1), (22, .invokevirtual 153, 3), (25, .ifCond .ne 9, 3), (28, .aload_n 0, 1), (29, .iconst 2, 1), (30, .invokevirtual 110, 3), (33, .ireturn, 1), (34, .aload_n 0, 1), (35, .getfield 12, 3), (38, .iload_n 1, 1), (39, .iconst 0, 1), (40, .aload_n 0, 1), (41, .getfield 26, 3), (44, .getfield 190, 3), (47, .invokevirtual 160, 3), (50, .ifCond .ne 9, 3), (53, .aload_n 0, 1), (54, .iconst 3, 1), (55, .invokevirtual 110, 3), (58, .ireturn, 1), (59, .iconst 0, 1), (60, .istore_n 2, 1), (61, .iload_n 2, 1), (62, .aload_n 0, 1), (63, .getfield 26, 3), (66, .getfield 190, 3), (69, .if_icmp .ge 28, 3), (72, .aload_n 0, 1), (73, .getfield 12, 3), (76, .iload_n 1, 1), (77, .iload_n 2, 1), (78, .aload_n 0, 1), (79, .getfield 26, 3), (82, .getfield 275, 3), (85, .iload_n 2, 1), (86, .iaload, 1), (87, .i2l, 1), (88, .invokevirtual 145, 3), (91, .iinc 2 1, 3), (94, .goto (-33), 3), (97, .aload_n 0, 1), (98, .aload_n 0, 1), (99, .getfield 26, 3), (102, .getfield 190, 3), (105, .invokevirtual 114, 3), (108, .ireturn, 1)]
set_option maxRecDepth 100000 in
theorem dt_X10_copyGrey : ∀ q ∈ tb_X10_copyGrey, decode cX10_copyGrey q.1 = .ok q.2 := by decide +kernel
def tb_X10_live : List (Nat × Jvm.ClassFile.Instr × Nat) := [(0, .iload_n 1, 1), (1, .iconst 0, 1), (2, .sipush 9999, 3), (5, .invokestatic 126, 3), (8, .ifCond .ne 9, 3), (11, .aload_n 0, 1), (12, .iconst 1, 1), (13, .invokevirtual 110, 3), (16, .ireturn, 1), (17, .aload_n 0, 1), (18, .getfield 36, 3), (21, .getfield 438, 3), (24, .ifCond .ne 10, 3), (27, .aload_n 0, 1), (28, .bipush 6, 2), (30, .invokevirtual 110, 3), (33, .ireturn, 1), (34, .aload_n 0, 1), (35, .getfield 70, 3), (38, .aload_n 0, 1), (39, .getfield 26, 3), (42, .aload_n 0, 1), (43, .getfield 36, 3), (46, .iload_n 1, 1), (47, .invokevirtual 440, 3), (50, .aload_n 0, 1), (51, .iconst 1, 1), (52, .putfield 95, 3), (55, .aload_n 0, 1), (56, .aload_n 0, 1), (57, .getfield 70, 3), (60, .getfield 444, 3), (63, .invokevirtual 114, 3), (66, .ireturn, 1)]
set_option maxRecDepth 100000 in
theorem dt_X10_live : ∀ q ∈ tb_X10_live, decode cX10_live q.1 = .ok q.2 := by decide +kernel
def tb_X10_lived : List (Nat × Jvm.ClassFile.Instr × Nat) := [(0, .iload_n 1, 1), (1, .iconst 0, 1), (2, .iconst 4, 1), (3, .invokestatic 126, 3), (6, .ifCond .ne 9, 3), (9, .aload_n 0, 1), (10, .iconst 1, 1), (11, .invokevirtual 110, 3), (14, .ireturn, 1), (15, .aload_n 0, 1), (16, .getfield 95, 3), (19, .ifCond .ne 10, 3), (22, .aload_n 0, 1), (23, .bipush 6, 2), (25, .invokevirtual 110, 3), (28, .ireturn, 1), (29, .iload_n 1, 1), (30, .tableswitch 78 0 3 #[30, 42, 54, 66], 30), (60, .aload_n 0, 1), (61, .aload_n 0, 1), (62, .getfield 70, 3), (65, .getfield 445, 3), (68, .invokevirtual 114, 3), (71, .ireturn, 1), (72, .aload_n 0, 1), (73, .aload_n 0, 1), (74, .getfield 70, 3), (77, .getfield 448, 3), (80, .invokevirtual 114, 3), (83, .ireturn, 1), (84, .aload_n 0, 1), (85, .aload_n 0, 1), (86, .getfield 70, 3), (89, .getfield 451, 3), (92, .invokevirtual 114, 3), (95, .ireturn, 1), (96, .aload_n 0, 1), (97, .aload_n 0, 1), (98, .getfield 70, 3), (101, .getfield 454, 3), (104, .invokevirtual 114, 3), (107, .ireturn, 1), (108, .aload_n 0, 1), (109, .aload_n 0, 1), (110, .getfield 70, 3), (113, .getfield 457, 3), (116, .ifCond .eq 7, 3), (119, .iconst 1, 1), (120, .goto 4, 3), (123, .iconst 0, 1), (124, .invokevirtual 114, 3), (127, .ireturn, 1)]
set_option maxRecDepth 100000 in
theorem dt_X10_lived : ∀ q ∈ tb_X10_lived, decode cX10_lived q.1 = .ok q.2 := by decide +kernel
def tb_X10_mean : List (Nat × Jvm.ClassFile.Instr × Nat) := [(0, .iload_n 1, 1), (1, .iconst 0, 1), (2, .sipush 9999, 3), (5, .invokestatic 126, 3), (8, .ifCond .eq 24, 3), (11, .iload_n 2, 1), (12, .iconst 1, 1), (13, .bipush 20, 2), (15, .invokestatic 126, 3), (18, .ifCond .eq 14, 3), (21, .iload_n 1, 1), (22, .iload_n 2, 1), (23, .iadd, 1), (24, .iconst 1, 1), (25, .isub, 1), (26, .sipush 9999, 3), (29, .if_icmp .le 9, 3), (32, .aload_n 0, 1), (33, .iconst 1, 1), (34, .invokevirtual 134, 3), (37, .ireturn, 1), (38, .aload_n 0, 1), (39, .getfield 36, 3), (42, .getfield 438, 3), (45, .ifCond .ne 10, 3), (48, .aload_n 0, 1), (49, .bipush 6, 2), (51, .invokevirtual 134, 3), (54, .ireturn, 1), (55, .lconst 0, 1), (56, .lstore_n 3, 1), (57, .iconst 0, 1), (58, .istore 5, 2), (60, .iload 5, 2), (62, .iload_n 2, 1), (63, .if_icmp .ge 50, 3), (66, .aload_n 0, 1), (67, .getfield 30, 3), (70, .aload_n 0, 1), (71, .getfield 26, 3), (74, .invokevirtual 183, 3), (77, .aload_n 0, 1), (78, .getfield 74, 3), (81, .aload_n 0, 1), (82, .getfield 30, 3), (85, .aload_n 0, 1), (86, .getfield 36, 3), (89, .iload_n 1, 1), (90, .iload 5, 2), (92, .iadd, 1), (93, .invokevirtual 440, 3), (96, .lload_n 3, 1), (97, .aload_n 0, 1), (98, .getfield 30, 3), (101, .invokevirtual 236, 3), (104, .i2l, 1), (105, .ladd, 1), (106, .lstore_n 3, 1), (107, .iinc 5 1, 3), (110, .goto (-50), 3), (113, .aload_n 0, 1), (114, .lload_n 3, 1), (115, .iload_n 2, 1), (116, .i2l, 1), (117, .invokevirtual 434, 3), (120, .ireturn, 1)]
set_option maxRecDepth 100000 in
theorem dt_X10_mean : ∀ q ∈ tb_X10_mean, decode cX10_mean q.1 = .ok q.2 := by decide +kernel
def tb_X10_mark : List (Nat × Jvm.ClassFile.Instr × Nat) := [(0, .aload_n 0, 1), (1, .getfield 91, 3), (4, .iconst 3, 1), (5, .if_icmp .lt 9, 3), (8, .aload_n 0, 1), (9, .iconst 4, 1), (10, .invokevirtual 110, 3), (13, .ireturn, 1), (14, .aload_n 0, 1), (15, .getfield 63, 3), (18, .aload_n 0, 1), (19, .getfield 91, 3), (22, .aaload, 1), (23, .astore_n 1, 1), (24, .aload_n 1, 1), (25, .ifnull 25, 3), (28, .aload_n 1, 1), (29, .getfield 460, 3), (32, .aload_n 0, 1), (33, .getfield 26, 3), (36, .invokevirtual 183, 3), (39, .aload_n 1, 1), (40, .getfield 463, 3), (43, .aload_n 0, 1), (44, .getfield 36, 3), (47, .invokevirtual 196, 3), (50, .aload_n 0, 1), (51, .dup, 1), (52, .getfield 91, 3), (55, .iconst 1, 1), (56, .iadd, 1), (57, .putfield 91, 3), (60, .aload_n 0, 1), (61, .aload_n 0, 1), (62, .getfield 91, 3), (65, .invokevirtual 114, 3), (68, .ireturn, 1)]
set_option maxRecDepth 100000 in
theorem dt_X10_mark : ∀ q ∈ tb_X10_mark, decode cX10_mark q.1 = .ok q.2 := by decide +kernel
def tb_X10_undo : List (Nat × Jvm.ClassFile.Instr × Nat) := [(0, .aload_n 0, 1), (1, .getfield 91, 3), (4, .ifCond .gt 10, 3), (7, .aload_n 0, 1), (8, .bipush 6, 2), (10, .invokevirtual 110, 3), (13, .ireturn, 1), (14, .aload_n 0, 1), (15, .dup, 1), (16, .getfield 91, 3), (19, .iconst 1, 1), (20, .isub, 1), (21, .putfield 91, 3), (24, .aload_n 0, 1), (25, .getfield 63, 3), (28, .aload_n 0, 1), (29, .getfield 91, 3), (32, .aaload, 1), (33, .astore_n 1, 1), (34, .aload_n 1, 1), (35, .ifnull 25, 3), (38, .aload_n 0, 1), (39, .getfield 26, 3), (42, .aload_n 1, 1), (43, .getfield 460, 3), (46, .invokevirtual 183, 3), (49, .aload_n 0, 1), (50, .getfield 36, 3), (53, .aload_n 1, 1), (54, .getfield 463, 3), (57, .invokevirtual 196, 3), (60, .aload_n 0, 1), (61, .aload_n 0, 1), (62, .getfield 91, 3), (65, .invokevirtual 114, 3), (68, .ireturn, 1)]
set_option maxRecDepth 100000 in
theorem dt_X10_undo : ∀ q ∈ tb_X10_undo, decode cX10_undo q.1 = .ok q.2 := by decide +kernel
def F_X10_status (w : GW) : Option Int32 := (some (w.1 0 15))
def F_X10_top (w : GW) : Option Int64 := (some (w.2 0 16))
def F_X10_bottom (w : GW) : Option Int64 := (some (w.2 0 17))
def F_X10_answer (x1 : Int32) (w : GW) : Option (Int32 × GW) := (some (x1, (gI w 0 15 (0 : Int32))))
def F_X10_refuse (x1 : Int32) (w : GW) : Option (Int32 × GW) := (some ((-1 : Int32), (gI w 0 15 x1)))
def F_X10_answerOrRefuse (x1 : Int32) (x2 : Int32) (w : GW) : Option (Int32 × GW) := (if x1 = (-1 : Int32) then ((F_X10_refuse x2 w).bind fun q3 => (some (q3.1, q3.2))) else ((F_X10_answer x1 w).bind fun q2 => (some (q2.1, q2.2))))
def F_X10_grant (w : GW) : Option (Int32 × GW) := (some ((1 : Int32), (gI w 0 15 (0 : Int32))))
def F_X10_deny (x1 : Int32) (w : GW) : Option (Int32 × GW) := (some ((0 : Int32), (gI w 0 15 x1)))
def f_X10_commonDivisor_44 (x4 : Int64) : Option Int64 := (some x4)
def b_X10_commonDivisor_9 (k9 : Int64 → Int64 → Int32 → Option Int64) (x4 : Int64) (x6 : Int64) (x8 : Int32) : Option Int64 := (if (1000000 : Int32) ≤ x8 then (f_X10_commonDivisor_44 x4) else (if (lg_cmp x6 (0 : Int64)) = 0 then (f_X10_commonDivisor_44 x4) else (if x6 = 0 then none else (k9 x6 (x4 - x4 / x6 * x6) (x8 + (1 : Int32))))))
def f_X10_commonDivisor_9 : Nat → Int64 → Int64 → Int32 → Option Int64
  | 0, _, _, _ => none
  | n + 1, x4, x6, x8 => b_X10_commonDivisor_9 (f_X10_commonDivisor_9 n) x4 x6 x8
def F_X10_commonDivisor (x0 : Int64) (x2 : Int64) : Option Int64 := (f_X10_commonDivisor_9 FU x0 x2 (0 : Int32))
def f_X10_grantFraction_12 (w : GW) : Option (Int32 × GW) := ((F_X10_grant (gL (gL w 0 16 (0 : Int64)) 0 17 (1 : Int64))).bind fun q7 => (if q7.1 = 0 ∨ q7.1 = 1 then some (q7.1, q7.2) else none))
def f_X10_grantFraction_57 (w : GW) : Option (Int32 × GW) := ((F_X10_grant w).bind fun q9 => (if q9.1 = 0 ∨ q9.1 = 1 then some (q9.1, q9.2) else none))
def F_X10_grantFraction (x1 : Int64) (x3 : Int64) (w : GW) : Option (Int32 × GW) := (if (lg_cmp x1 (0 : Int64)) = 0 then (f_X10_grantFraction_12 w) else (if 0 < (lg_cmp x3 (0 : Int64)) then ((F_X10_commonDivisor x1 x3).bind fun q3 => (if (lg_cmp q3 (0 : Int64)) ≤ 0 then (f_X10_grantFraction_57 w) else (if q3 = 0 then none else (if q3 = 0 then none else (f_X10_grantFraction_57 (gL (gL w 0 16 (x1 / q3)) 0 17 (x3 / q3))))))) else (f_X10_grantFraction_12 w)))
def F_X10_between (x0 : Int32) (x1 : Int32) (x2 : Int32) : Option Int32 := (if x0 < x1 then (some (0 : Int32)) else (if x2 < x0 then (some (0 : Int32)) else (some (1 : Int32))))
def F_X10_isYears (w : GW) (x1 : Int32) : Option Int32 := ((F_X10_between x1 (0 : Int32) (40 : Int32)).bind fun q1 => (if q1 = 0 ∨ q1 = 1 then some q1 else none))
def f_X10_tray_30 (w : GW) : Option (Int32 × GW) := ((F_X10_deny (1 : Int32) w).bind fun q10 => (if q10.1 = 0 ∨ q10.1 = 1 then some (q10.1, q10.2) else none))
def F_X10_tray (x1 : Int32) (x2 : Int32) (x3 : Int32) (w : GW) : Option (Int32 × GW) := ((F_X9_isTray (gsub w e_shX_shTr_1) x1).bind fun q1 => (if q1 = 0 then (f_X10_tray_30 w) else ((F_X10_between x2 (0 : Int32) (3 : Int32)).bind fun q3 => (if q3 = 0 then (f_X10_tray_30 w) else ((F_X10_between x3 (0 : Int32) (60 : Int32)).bind fun q5 => (if q5 = 0 then (f_X10_tray_30 w) else ((F_X9_lay x1 x2 x3 (gsub w e_shX_shTr_1)).bind fun q7 => ((F_X10_grant (gput w e_shX_shTr_1 q7)).bind fun q8 => (if q8.1 = 0 ∨ q8.1 = 1 then some (q8.1, q8.2) else none)))))))))
def F_X10_write (x1 : Int32) (x2 : Int32) (x3 : Int64) (w : GW) : Option (Int32 × GW) := ((F_X9_whyNot (gsub w e_shX_shTr_1) x1 x2).bind fun q1 => (if q1 = 0 then ((F_X9_put x1 x2 x3 (gsub w e_shX_shTr_1)).bind fun q3 => ((F_X10_grant (gput w e_shX_shTr_1 q3)).bind fun q4 => (if q4.1 = 0 ∨ q4.1 = 1 then some (q4.1, q4.2) else none))) else ((F_X10_deny q1 w).bind fun q6 => (if q6.1 = 0 ∨ q6.1 = 1 then some (q6.1, q6.2) else none))))
def F_X10_read (x1 : Int32) (x2 : Int32) (w : GW) : Option (Int64 × GW) := ((F_X9_whyNot (gsub w e_shX_shTr_1) x1 x2).bind fun q1 => (if q1 = 0 then ((F_X9_at (gsub (gI w 0 15 (0 : Int32)) e_shX_shTr_1) x1 x2).bind fun q3 => (some (q3, (gI w 0 15 (0 : Int32))))) else ((F_X10_refuse q1 w).bind fun q4 => (some (q4.1.toInt64, q4.2)))))
def f_X10_pour_36 (w : GW) : Option (Int32 × GW) := ((F_X10_deny (1 : Int32) w).bind fun q23 => (if q23.1 = 0 ∨ q23.1 = 1 then some (q23.1, q23.2) else none))
def f_X10_pour_64 (w : GW) : Option (Int32 × GW) := ((F_X10_deny (2 : Int32) w).bind fun q25 => (if q25.1 = 0 ∨ q25.1 = 1 then some (q25.1, q25.2) else none))
def f_X10_pour_118 (w : GW) : Option (Int32 × GW) := ((F_X10_deny (3 : Int32) w).bind fun q27 => (if q27.1 = 0 ∨ q27.1 = 1 then some (q27.1, q27.2) else none))
def F_X10_pour (x1 : Int32) (x2 : Int32) (x3 : Int32) (x4 : Int32) (x5 : Int32) (w : GW) : Option (Int32 × GW) := ((F_X9_isTray (gsub w e_shX_shTr_1) x1).bind fun q1 => (if q1 = 0 then (f_X10_pour_36 w) else ((F_X9_isTray (gsub w e_shX_shTr_1) x3).bind fun q3 => (if q3 = 0 then (f_X10_pour_36 w) else (if x2 < 0 then (f_X10_pour_36 w) else (if x4 < 0 then (f_X10_pour_36 w) else (if 0 ≤ x5 then ((F_X9_isThere (gsub w e_shX_shTr_1) x1).bind fun q8 => (if q8 = 0 then (f_X10_pour_64 w) else ((F_X9_isThere (gsub w e_shX_shTr_1) x3).bind fun q10 => (if q10 = 0 then (f_X10_pour_64 w) else ((F_X9_areAlike (gsub w e_shX_shTr_1) x1 x3).bind fun q12 => (if q12 = 0 then ((F_X10_deny (8 : Int32) w).bind fun q21 => (if q21.1 = 0 ∨ q21.1 = 1 then some (q21.1, q21.2) else none)) else ((F_X9_hasFrom (gsub w e_shX_shTr_1) x1 x2 x5).bind fun q14 => (if q14 = 0 then (f_X10_pour_118 w) else ((F_X9_hasFrom (gsub w e_shX_shTr_1) x3 x4 x5).bind fun q16 => (if q16 = 0 then (f_X10_pour_118 w) else ((F_X9_shift x1 x2 x3 x4 x5 (gsub w e_shX_shTr_1)).bind fun q18 => ((F_X10_grant (gput w e_shX_shTr_1 q18)).bind fun q19 => (if q19.1 = 0 ∨ q19.1 = 1 then some (q19.1, q19.2) else none))))))))))))) else (f_X10_pour_36 w))))))))
def F_X10_feed (x1 : Int32) (x2 : Int32) (x3 : Int32) (x4 : Int32) (x5 : Int32) (w : GW) : Option (Int32 × GW) := ((F_X8_hasRoomFor (gsub w e_shX_shT_9) (20 : Int32)).bind fun q1 => (if q1 = 0 then (some ((-1 : Int32), w)) else ((F_X8_append x1 (gsub w e_shX_shT_9)).bind fun q3 => ((F_X8_append x2 (gsub (gput w e_shX_shT_9 q3) e_shX_shT_9)).bind fun q4 => ((F_X8_append x3 (gsub (gput (gput w e_shX_shT_9 q3) e_shX_shT_9 q4) e_shX_shT_9)).bind fun q5 => ((F_X8_append x4 (gsub (gput (gput (gput w e_shX_shT_9 q3) e_shX_shT_9 q4) e_shX_shT_9 q5) e_shX_shT_9)).bind fun q6 => ((F_X8_append x5 (gsub (gput (gput (gput (gput w e_shX_shT_9 q3) e_shX_shT_9 q4) e_shX_shT_9 q5) e_shX_shT_9 q6) e_shX_shT_9)).bind fun q7 => (some ((q7.1 0 0), (gput (gput (gput (gput (gput w e_shX_shT_9 q3) e_shX_shT_9 q4) e_shX_shT_9 q5) e_shX_shT_9 q6) e_shX_shT_9 q7))))))))))
def f_X10_bank_15 (w : GW) : Option (Int32 × GW) := ((F_X10_refuse (1 : Int32) w).bind fun q10 => (some (q10.1, q10.2)))
def F_X10_bank (x1 : Int32) (w : GW) : Option (Int32 × GW) := (if x1 < 0 then (f_X10_bank_15 w) else (if x1 ≤ (w.1 9 0) then ((F_X8_begin x1 (gsub w e_shX_shT_9)).bind fun q3 => ((F_X1_readParts (gsub (gput w e_shX_shT_9 q3) e_shX_shBR_56)).bind fun q4 => (if q4.1 = 0 then ((F_X10_refuse (9 : Int32) (gput (gput w e_shX_shT_9 q3) e_shX_shBR_56 q4.2)).bind fun q9 => (some (q9.1, q9.2))) else ((F_X0_copyFrom (gsub (gput (gput w e_shX_shT_9 q3) e_shX_shBR_56 q4.2) e_shX_shBB_14_27)).bind fun q6 => ((F_X5_clear (gsub (gput (gput (gput w e_shX_shT_9 q3) e_shX_shBR_56 q4.2) e_shX_shBB_14_27 q6) e_shX_shP_40)).bind fun q7 => ((F_X10_answer (q6.1 0 5) (gput (gput (gput (gput w e_shX_shT_9 q3) e_shX_shBR_56 q4.2) e_shX_shBB_14_27 q6) e_shX_shP_40 q7)).bind fun q8 => (some (q8.1, q8.2)))))))) else (f_X10_bank_15 w)))
def f_X10_decades_22 (w : GW) : Option (Int32 × GW) := ((F_X10_refuse (1 : Int32) w).bind fun q10 => (some (q10.1, q10.2)))
def F_X10_decades (x1 : Int32) (w : GW) : Option (Int32 × GW) := (if x1 < 0 then (f_X10_decades_22 w) else (if (w.1 9 0) < x1 then (f_X10_decades_22 w) else (if x1 ≤ (300 : Int32) then ((F_X8_begin x1 (gsub w e_shX_shT_9)).bind fun q4 => ((F_X6_readSteps (gsub (gput w e_shX_shT_9 q4) e_shX_shPR_57)).bind fun q5 => (if q5.1 = 0 then ((F_X10_refuse (9 : Int32) (gput (gput w e_shX_shT_9 q4) e_shX_shPR_57 q5.2)).bind fun q9 => (some (q9.1, q9.2))) else ((F_X5_copyFrom (gsub (gput (gput w e_shX_shT_9 q4) e_shX_shPR_57 q5.2) e_shX_shPP_40_48)).bind fun q7 => ((F_X10_answer (q7.1 0 1) (gput (gput (gput w e_shX_shT_9 q4) e_shX_shPR_57 q5.2) e_shX_shPP_40_48 q7)).bind fun q8 => (some (q8.1, q8.2))))))) else (f_X10_decades_22 w))))
def F_X10_fault (w : GW) (x1 : Int32) : Option Int32 := (if x1 = 0 then (some (w.1 9 4)) else (if x1 = (1 : Int32) then (some (w.1 9 5)) else (some (-1 : Int32))))
def F_X10_toldOf (w : GW) (x1 : Int32) : Option Int32 := (if x1 = (0 : Int32) then (some (w.1 14 3)) else (if x1 = (1 : Int32) then (some (w.1 14 4)) else (if x1 = (2 : Int32) then (some (w.1 14 5)) else (if x1 = (3 : Int32) then (some (w.1 14 6)) else (if x1 = (4 : Int32) then (some (w.1 14 0)) else (if x1 = (5 : Int32) then (some (w.1 14 1)) else (if x1 = (6 : Int32) then (some (w.1 14 2)) else (if x1 = (7 : Int32) then ((F_X0_unpaidOfAll (gsub w e_shX_shB_14)).bind fun q9 => (some q9)) else (if x1 = (8 : Int32) then ((F_X0_paidOfAll (gsub w e_shX_shB_14)).bind fun q11 => (some q11)) else (if x1 = (9 : Int32) then ((F_X0_greyOfAll (gsub w e_shX_shB_14)).bind fun q13 => (some q13)) else ((F_X0_sumOf (gsub w e_shX_shB_14) (255 : Int32)).bind fun q14 => (some q14))))))))))))
def F_X10_told (x1 : Int32) (w : GW) : Option (Int32 × GW) := ((F_X10_between x1 (0 : Int32) (10 : Int32)).bind fun q1 => (if q1 = 0 then ((F_X10_refuse (1 : Int32) w).bind fun q5 => (some (q5.1, q5.2))) else ((F_X10_toldOf w x1).bind fun q3 => ((F_X10_answer q3 w).bind fun q4 => (some (q4.1, q4.2))))))
def f_X10_corner_20 (w : GW) : Option (Int32 × GW) := ((F_X10_refuse (1 : Int32) w).bind fun q10 => (some (q10.1, q10.2)))
def F_X10_corner (x1 : Int32) (x2 : Int32) (w : GW) : Option (Int32 × GW) := ((F_X0_hasCorner (gsub w e_shX_shB_14) x1).bind fun q1 => (if q1 = 0 then (f_X10_corner_20 w) else ((F_X10_between x2 (0 : Int32) (1 : Int32)).bind fun q3 => (if q3 = 0 then (f_X10_corner_20 w) else (if x2 = 0 then (if gin x1 7 then ((F_X10_answer (w.1 15 x1.toNatClampNeg) w).bind fun q9 => (some (q9.1, q9.2))) else none) else ((F_X0_sitterIn (gsub w e_shX_shB_14) x1).bind fun q6 => ((F_X10_answerOrRefuse q6 (6 : Int32) w).bind fun q7 => (some (q7.1, q7.2)))))))))
def f_X10_rank_20 (w : GW) : Option (Int32 × GW) := ((F_X10_refuse (1 : Int32) w).bind fun q13 => (some (q13.1, q13.2)))
def F_X10_rank (x1 : Int32) (x2 : Int32) (w : GW) : Option (Int32 × GW) := ((F_X0_hasRank (gsub w e_shX_shB_14) x1).bind fun q1 => (if q1 = 0 then (f_X10_rank_20 w) else ((F_X10_between x2 (0 : Int32) (2 : Int32)).bind fun q3 => (if q3 = 0 then (f_X10_rank_20 w) else (if x2 = (0 : Int32) then (if gin x1 5 then ((F_X10_answer (w.1 16 x1.toNatClampNeg) w).bind fun q7 => (some (q7.1, q7.2))) else none) else (if x2 = (1 : Int32) then (if gin x1 5 then ((F_X10_answer (w.1 17 x1.toNatClampNeg) w).bind fun q10 => (some (q10.1, q10.2))) else none) else ((F_X0_clerksOfRank (gsub w e_shX_shB_14) x1).bind fun q11 => ((F_X10_answer q11 w).bind fun q12 => (some (q12.1, q12.2))))))))))
def f_X10_clerk_21 (w : GW) : Option (Int32 × GW) := ((F_X10_refuse (1 : Int32) w).bind fun q25 => (some (q25.1, q25.2)))
def F_X10_clerk (x1 : Int32) (x2 : Int32) (w : GW) : Option (Int32 × GW) := ((F_X0_hasClerk (gsub w e_shX_shB_14) x1).bind fun q1 => (if q1 = 0 then (f_X10_clerk_21 w) else ((F_X10_between x2 (0 : Int32) (6 : Int32)).bind fun q3 => (if q3 = 0 then (f_X10_clerk_21 w) else (if x2 = (0 : Int32) then (if gin x1 6 then ((F_X10_answer (w.1 19 x1.toNatClampNeg) w).bind fun q7 => (some (q7.1, q7.2))) else none) else (if x2 = (1 : Int32) then (if gin x1 6 then ((F_X10_answer (w.1 20 x1.toNatClampNeg) w).bind fun q10 => (some (q10.1, q10.2))) else none) else (if x2 = (2 : Int32) then (if gin x1 6 then ((F_X10_answer (w.1 21 x1.toNatClampNeg) w).bind fun q13 => (some (q13.1, q13.2))) else none) else (if x2 = (3 : Int32) then (if gin x1 6 then ((F_X10_answer (w.1 22 x1.toNatClampNeg) w).bind fun q16 => (some (q16.1, q16.2))) else none) else (if x2 = (4 : Int32) then ((F_X0_looksOf (gsub w e_shX_shB_14) x1).bind fun q18 => ((F_X10_answer q18 w).bind fun q19 => (some (q19.1, q19.2)))) else (if x2 = (5 : Int32) then (if gin x1 6 then ((F_X10_answer (w.1 23 x1.toNatClampNeg) w).bind fun q22 => (some (q22.1, q22.2))) else none) else (if gin x1 6 then ((F_X10_answer (w.1 24 x1.toNatClampNeg) w).bind fun q24 => (some (q24.1, q24.2))) else none)))))))))))
def F_X10_rankOf (x1 : Int32) (w : GW) : Option (Int32 × GW) := ((F_X0_hasClerk (gsub w e_shX_shB_14) x1).bind fun q1 => (if q1 = 0 then ((F_X10_refuse (1 : Int32) w).bind fun q6 => (some (q6.1, q6.2))) else ((F_X0_looksOf (gsub w e_shX_shB_14) x1).bind fun q3 => ((F_X0_rankBy (gsub w e_shX_shB_14) q3).bind fun q4 => ((F_X10_answerOrRefuse q4 (6 : Int32) w).bind fun q5 => (some (q5.1, q5.2)))))))
def f_X10_client_20 (w : GW) : Option (Int32 × GW) := ((F_X10_refuse (1 : Int32) w).bind fun q8 => (some (q8.1, q8.2)))
def f_X10_client_52 (s0 : Int32) (w : GW) : Option (Int32 × GW) := ((F_X10_answer s0 w).bind fun q9 => (some (q9.1, q9.2)))
def F_X10_client (x1 : Int32) (x2 : Int32) (w : GW) : Option (Int32 × GW) := ((F_X0_hasClient (gsub w e_shX_shB_14) x1).bind fun q1 => (if q1 = 0 then (f_X10_client_20 w) else ((F_X10_between x2 (0 : Int32) (1 : Int32)).bind fun q3 => (if q3 = 0 then (f_X10_client_20 w) else (if x2 = 0 then (if gin x1 8 then (f_X10_client_52 (w.1 25 x1.toNatClampNeg) w) else none) else (if gin x1 8 then (f_X10_client_52 (w.1 26 x1.toNatClampNeg) w) else none))))))
def F_X10_year (x1 : Int32) (w : GW) : Option (Int32 × GW) := ((F_X10_between x1 (1 : Int32) (99 : Int32)).bind fun q1 => (if q1 = 0 then ((F_X10_refuse (1 : Int32) w).bind fun q5 => (some (q5.1, q5.2))) else ((F_X0_passYears x1 (gsub w e_shX_shB_14)).bind fun q3 => ((F_X10_answerOrRefuse q3.1 (4 : Int32) (gput w e_shX_shB_14 q3.2)).bind fun q4 => (some (q4.1, q4.2))))))
def f_X10_move_22 (w : GW) : Option (Int32 × GW) := ((F_X10_refuse (1 : Int32) w).bind fun q7 => (some (q7.1, q7.2)))
def F_X10_move (x1 : Int32) (x2 : Int32) (w : GW) : Option (Int32 × GW) := ((F_X0_hasClerk (gsub w e_shX_shB_14) x1).bind fun q1 => (if q1 = 0 then (f_X10_move_22 w) else ((F_X0_hasCorner (gsub w e_shX_shB_14) x2).bind fun q3 => (if q3 = 0 then (f_X10_move_22 w) else ((F_X0_seatElsewhere x1 x2 (gsub w e_shX_shB_14)).bind fun q5 => ((F_X10_answerOrRefuse q5.1 (7 : Int32) (gput w e_shX_shB_14 q5.2)).bind fun q6 => (some (q6.1, q6.2))))))))
def F_X10_areTwo (w : GW) (x1 : Int32) (x2 : Int32) : Option Int32 := ((F_X0_hasClerk (gsub w e_shX_shB_14) x1).bind fun q1 => (if q1 = 0 then (some (0 : Int32)) else ((F_X0_hasClerk (gsub w e_shX_shB_14) x2).bind fun q3 => (if q3 = 0 then (some (0 : Int32)) else (if x1 = x2 then (some (0 : Int32)) else (some (1 : Int32)))))))
def F_X10_swap (x1 : Int32) (x2 : Int32) (w : GW) : Option (Int32 × GW) := ((F_X10_areTwo w x1 x2).bind fun q1 => (if q1 = 0 then ((F_X10_refuse (1 : Int32) w).bind fun q5 => (some (q5.1, q5.2))) else ((F_X0_exchange x1 x2 (gsub w e_shX_shB_14)).bind fun q3 => ((F_X10_answerOrRefuse q3.1 (7 : Int32) (gput w e_shX_shB_14 q3.2)).bind fun q4 => (some (q4.1, q4.2))))))
def f_X10_fan_21 (w : GW) : Option (Int32 × GW) := ((F_X10_refuse (1 : Int32) w).bind fun q7 => (some (q7.1, q7.2)))
def F_X10_fan (x1 : Int32) (x2 : Int32) (w : GW) : Option (Int32 × GW) := ((F_X0_hasClerk (gsub w e_shX_shB_14) x1).bind fun q1 => (if q1 = 0 then (f_X10_fan_21 w) else ((F_X10_between x2 (1 : Int32) (50 : Int32)).bind fun q3 => (if q3 = 0 then (f_X10_fan_21 w) else ((F_X0_addSham x1 x2 (gsub w e_shX_shB_14)).bind fun q5 => ((F_X10_answerOrRefuse q5.1 (7 : Int32) (gput w e_shX_shB_14 q5.2)).bind fun q6 => (some (q6.1, q6.2))))))))
def F_X10_dust (x1 : Int32) (w : GW) : Option (Int32 × GW) := ((F_X0_hasClerk (gsub w e_shX_shB_14) x1).bind fun q1 => (if q1 = 0 then ((F_X10_refuse (1 : Int32) w).bind fun q5 => (some (q5.1, q5.2))) else ((F_X0_wipe x1 (gsub w e_shX_shB_14)).bind fun q3 => ((F_X10_answerOrRefuse q3.1 (7 : Int32) (gput w e_shX_shB_14 q3.2)).bind fun q4 => (some (q4.1, q4.2))))))
def F_X10_look (x1 : Int32) (w : GW) : Option (Int32 × GW) := ((F_X0_hasClerk (gsub w e_shX_shB_14) x1).bind fun q1 => (if q1 = 0 then ((F_X10_refuse (1 : Int32) w).bind fun q5 => (some (q5.1, q5.2))) else ((F_X0_exposeSham x1 (gsub w e_shX_shB_14)).bind fun q3 => ((F_X10_answerOrRefuse q3.1 (7 : Int32) (gput w e_shX_shB_14 q3.2)).bind fun q4 => (some (q4.1, q4.2))))))
def F_X10_run (w : GW) : Option (Int32 × GW) := ((F_X0_payComing (gsub w e_shX_shB_14)).bind fun q1 => ((F_X10_answerOrRefuse q1.1 (7 : Int32) (gput w e_shX_shB_14 q1.2)).bind fun q2 => (some (q2.1, q2.2))))
def F_X10_hire (x1 : Int32) (w : GW) : Option (Int32 × GW) := ((F_X0_hasCorner (gsub w e_shX_shB_14) x1).bind fun q1 => (if q1 = 0 then ((F_X10_refuse (1 : Int32) w).bind fun q10 => (some (q10.1, q10.2))) else (if (w.1 14 5) < (6 : Int32) then ((F_X0_sitterIn (gsub w e_shX_shB_14) x1).bind fun q4 => (if q4 = (-1 : Int32) then ((F_X0_addClerk (0 : Int64) x1 (gsub w e_shX_shB_14)).bind fun q6 => ((F_X10_answer q6.1 (gput w e_shX_shB_14 q6.2)).bind fun q7 => (some (q7.1, q7.2)))) else ((F_X10_refuse (7 : Int32) w).bind fun q8 => (some (q8.1, q8.2))))) else ((F_X10_refuse (4 : Int32) w).bind fun q9 => (some (q9.1, q9.2))))))
def f_X10_open_21 (w : GW) : Option (Int32 × GW) := ((F_X10_refuse (1 : Int32) w).bind fun q9 => (some (q9.1, q9.2)))
def F_X10_open (x1 : Int32) (x2 : Int32) (w : GW) : Option (Int32 × GW) := ((F_X10_between x1 (1 : Int32) (99 : Int32)).bind fun q1 => (if q1 = 0 then (f_X10_open_21 w) else ((F_X10_between x2 (0 : Int32) (999 : Int32)).bind fun q3 => (if q3 = 0 then (f_X10_open_21 w) else (if (w.1 14 6) < (8 : Int32) then ((F_X0_addClient x1 x2 (gsub (gI w 14 1 (imin (9999 : Int32) ((w.1 14 1) + x1))) e_shX_shB_14)).bind fun q6 => ((F_X10_answer q6.1 (gput (gI w 14 1 (imin (9999 : Int32) ((w.1 14 1) + x1))) e_shX_shB_14 q6.2)).bind fun q7 => (some (q7.1, q7.2)))) else ((F_X10_refuse (4 : Int32) w).bind fun q8 => (some (q8.1, q8.2))))))))
def f_X10_calm_21 (w : GW) : Option (Int32 × GW) := ((F_X10_refuse (1 : Int32) w).bind fun q7 => (some (q7.1, q7.2)))
def F_X10_calm (x1 : Int32) (x2 : Int32) (w : GW) : Option (Int32 × GW) := ((F_X0_hasCorner (gsub w e_shX_shB_14) x1).bind fun q1 => (if q1 = 0 then (f_X10_calm_21 w) else ((F_X10_between x2 (0 : Int32) (9 : Int32)).bind fun q3 => (if q3 = 0 then (f_X10_calm_21 w) else (if gin x1 7 then ((F_X10_answer (w.1 15 x1.toNatClampNeg) (gI w 15 x1.toNatClampNeg x2)).bind fun q6 => (some (q6.1, q6.2))) else none)))))
def f_X10_rule_57 (w : GW) : Option (Int32 × GW) := ((F_X10_deny (1 : Int32) w).bind fun q11 => (if q11.1 = 0 ∨ q11.1 = 1 then some (q11.1, q11.2) else none))
def f_X10_rule_28 (x1 : Int32) (x2 : Int32) (w : GW) : Option (Int32 × GW) := (if x1 = (5 : Int32) then ((F_X10_between x2 (0 : Int32) (9999 : Int32)).bind fun q7 => (if q7 = 0 then (f_X10_rule_57 w) else ((F_X10_grant (gI w 14 1 x2)).bind fun q9 => (if q9.1 = 0 ∨ q9.1 = 1 then some (q9.1, q9.2) else none)))) else (f_X10_rule_57 w))
def F_X10_rule (x1 : Int32) (x2 : Int32) (w : GW) : Option (Int32 × GW) := (if x1 = (4 : Int32) then ((F_X10_between x2 (0 : Int32) (16 : Int32)).bind fun q2 => (if q2 = 0 then (f_X10_rule_28 x1 x2 w) else ((F_X10_grant (gI w 14 0 x2)).bind fun q4 => (if q4.1 = 0 ∨ q4.1 = 1 then some (q4.1, q4.2) else none)))) else (f_X10_rule_28 x1 x2 w))
def f_X10_greyIn_19 (w : GW) : Option (Int32 × GW) := ((F_X10_refuse (1 : Int32) w).bind fun q7 => (some (q7.1, q7.2)))
def F_X10_greyIn (x1 : Int32) (x2 : Int32) (w : GW) : Option (Int32 × GW) := ((F_X0_hasClerk (gsub w e_shX_shB_14) x1).bind fun q1 => (if q1 = 0 then (f_X10_greyIn_19 w) else ((F_X10_isYears w x2).bind fun q3 => (if q3 = 0 then (f_X10_greyIn_19 w) else ((F_X0_greyStaying (gsub w e_shX_shB_14) x1 x2).bind fun q5 => ((F_X10_answer q5 w).bind fun q6 => (some (q6.1, q6.2))))))))
def f_X10_rankIn_19 (w : GW) : Option (Int32 × GW) := ((F_X10_refuse (1 : Int32) w).bind fun q10 => (some (q10.1, q10.2)))
def F_X10_rankIn (x1 : Int32) (x2 : Int32) (w : GW) : Option (Int32 × GW) := ((F_X0_hasClerk (gsub w e_shX_shB_14) x1).bind fun q1 => (if q1 = 0 then (f_X10_rankIn_19 w) else ((F_X10_isYears w x2).bind fun q3 => (if q3 = 0 then (f_X10_rankIn_19 w) else ((F_X0_greyStaying (gsub w e_shX_shB_14) x1 x2).bind fun q5 => (if gin x1 6 then ((F_X10_looksBy q5 (w.1 22 x1.toNatClampNeg)).bind fun q7 => ((F_X0_rankBy (gsub w e_shX_shB_14) q7).bind fun q8 => ((F_X10_answerOrRefuse q8 (6 : Int32) w).bind fun q9 => (some (q9.1, q9.2))))) else none))))))
def b_X10_unpaidIn_21 (k21 : Int32 → Int32 → GW → Option (Int32 × GW)) (x1 : Int32) (x2 : Int32) (w : GW) : Option (Int32 × GW) := (if (99 : Int32) < x2 then ((F_X10_refuse (6 : Int32) w).bind fun q4 => (some (q4.1, q4.2))) else ((F_X0_passYear (gsub w e_shX_shB_27)).bind fun q5 => ((F_X0_unpaidOfAll (gsub (gput w e_shX_shB_27 q5.2) e_shX_shB_27)).bind fun q6 => (if q6 ≤ x1 then (k21 x1 (x2 + (1 : Int32)) (gput w e_shX_shB_27 q5.2)) else ((F_X10_answer x2 (gput w e_shX_shB_27 q5.2)).bind fun q8 => (some (q8.1, q8.2)))))))
def f_X10_unpaidIn_21 : Nat → Int32 → Int32 → GW → Option (Int32 × GW)
  | 0, _, _, _ => none
  | n + 1, x1, x2, w => b_X10_unpaidIn_21 (f_X10_unpaidIn_21 n) x1 x2 w
def F_X10_unpaidIn (w : GW) : Option (Int32 × GW) := ((F_X0_copyFrom (gsub w e_shX_shBB_27_14)).bind fun q1 => ((F_X0_unpaidOfAll (gsub (gput w e_shX_shBB_27_14 q1) e_shX_shB_27)).bind fun q2 => (f_X10_unpaidIn_21 FU q2 (1 : Int32) (gput w e_shX_shBB_27_14 q1))))
def b_X10_cashIn_27 (k27 : Int32 → Int32 → GW → Option (Int32 × GW)) (x1 : Int32) (x2 : Int32) (w : GW) : Option (Int32 × GW) := (if x1 ≤ x2 then ((F_X10_answer (w.1 27 1) w).bind fun q6 => (some (q6.1, q6.2))) else ((F_X0_passYear (gsub w e_shX_shB_27)).bind fun q7 => (k27 x1 (x2 + (1 : Int32)) (gput w e_shX_shB_27 q7.2))))
def f_X10_cashIn_27 : Nat → Int32 → Int32 → GW → Option (Int32 × GW)
  | 0, _, _, _ => none
  | n + 1, x1, x2, w => b_X10_cashIn_27 (f_X10_cashIn_27 n) x1 x2 w
def F_X10_cashIn (x1 : Int32) (w : GW) : Option (Int32 × GW) := ((F_X10_isYears w x1).bind fun q1 => (if q1 = 0 then ((F_X10_refuse (1 : Int32) w).bind fun q4 => (some (q4.1, q4.2))) else ((F_X0_copyFrom (gsub w e_shX_shBB_27_14)).bind fun q3 => (f_X10_cashIn_27 FU x1 (0 : Int32) (gput w e_shX_shBB_27_14 q3)))))
def F_X10_seating (x1 : Int32) (w : GW) : Option (Int32 × GW) := ((F_X10_isYears w x1).bind fun q1 => (if q1 = 0 then ((F_X10_refuse (1 : Int32) w).bind fun q5 => (some (q5.1, q5.2))) else ((F_X7_mostGrey x1 (gsub w e_shX_shS_132_14)).bind fun q3 => ((F_X10_answer q3.1 (gput w e_shX_shS_132_14 q3.2)).bind fun q4 => (some (q4.1, q4.2))))))
def f_X10_seatOf_19 (w : GW) : Option (Int32 × GW) := ((F_X10_refuse (1 : Int32) w).bind fun q7 => (some (q7.1, q7.2)))
def F_X10_seatOf (x1 : Int32) (x2 : Int32) (w : GW) : Option (Int32 × GW) := ((F_X10_isYears w x1).bind fun q1 => (if q1 = 0 then (f_X10_seatOf_19 w) else ((F_X0_hasClerk (gsub w e_shX_shB_14) x2).bind fun q3 => (if q3 = 0 then (f_X10_seatOf_19 w) else ((F_X7_bestSeat x1 x2 (gsub w e_shX_shS_132_14)).bind fun q5 => ((F_X10_answer q5.1 (gput w e_shX_shS_132_14 q5.2)).bind fun q6 => (some (q6.1, q6.2))))))))
def F_X10_isSwapLiked (w : GW) (x1 : Int32) (x2 : Int32) (x3 : Int32) : Option Int32 := ((F_X0_greyStaying (gsub w e_shX_shB_14) x2 x1).bind fun q1 => ((F_X0_greyStaying (gsub w e_shX_shB_14) x3 x1).bind fun q2 => (if gin x3 6 then ((F_X0_greySeated (gsub w e_shX_shB_14) x2 (w.1 19 x3.toNatClampNeg) x1).bind fun q4 => (if gin x2 6 then ((F_X0_greySeated (gsub w e_shX_shB_14) x3 (w.1 19 x2.toNatClampNeg) x1).bind fun q6 => (if (q4 + q6) ≤ (q1 + q2) then (some (0 : Int32)) else (some (1 : Int32)))) else none)) else none)))
def f_X10_liked_60 (k34 : Int32 → Int32 → Int32 → Int32 → GW → Option (Int32 × GW)) (x1 : Int32) (x2 : Int32) (x3 : Int32) (x4 : Int32) (w : GW) : Option (Int32 × GW) := (k34 x1 x2 x3 (x4 + (1 : Int32)) w)
def b_X10_liked_34 (k18 : Int32 → Int32 → Int32 → GW → Option (Int32 × GW)) (k34 : Int32 → Int32 → Int32 → Int32 → GW → Option (Int32 × GW)) (x1 : Int32) (x2 : Int32) (x3 : Int32) (x4 : Int32) (w : GW) : Option (Int32 × GW) := (if (w.1 14 5) ≤ x4 then (k18 x1 x2 (x3 + (1 : Int32)) w) else ((F_X10_isSwapLiked w x1 x3 x4).bind fun q7 => (if q7 = 0 then (f_X10_liked_60 k34 x1 x2 x3 x4 w) else (f_X10_liked_60 k34 x1 (x2 + (1 : Int32)) x3 x4 w))))
def f_X10_liked_34 (k18 : Int32 → Int32 → Int32 → GW → Option (Int32 × GW)) : Nat → Int32 → Int32 → Int32 → Int32 → GW → Option (Int32 × GW)
  | 0, _, _, _, _, _ => none
  | n + 1, x1, x2, x3, x4, w => b_X10_liked_34 k18 (f_X10_liked_34 k18 n) x1 x2 x3 x4 w
def b_X10_liked_18 (k18 : Int32 → Int32 → Int32 → GW → Option (Int32 × GW)) (x1 : Int32) (x2 : Int32) (x3 : Int32) (w : GW) : Option (Int32 × GW) := (if (w.1 14 5) ≤ x3 then ((F_X10_answer x2 w).bind fun q5 => (some (q5.1, q5.2))) else (f_X10_liked_34 k18 FU x1 x2 x3 (x3 + (1 : Int32)) w))
def f_X10_liked_18 : Nat → Int32 → Int32 → Int32 → GW → Option (Int32 × GW)
  | 0, _, _, _, _ => none
  | n + 1, x1, x2, x3, w => b_X10_liked_18 (f_X10_liked_18 n) x1 x2 x3 w
def F_X10_liked (x1 : Int32) (w : GW) : Option (Int32 × GW) := ((F_X10_isYears w x1).bind fun q1 => (if q1 = 0 then ((F_X10_refuse (1 : Int32) w).bind fun q3 => (some (q3.1, q3.2))) else (f_X10_liked_18 FU x1 (0 : Int32) (0 : Int32) w)))
def f_X10_isLiked_17 (w : GW) : Option (Int32 × GW) := ((F_X10_refuse (1 : Int32) w).bind fun q7 => (some (q7.1, q7.2)))
def f_X10_isLiked_39 (s0 : Int32) (w : GW) : Option (Int32 × GW) := ((F_X10_answer s0 w).bind fun q8 => (some (q8.1, q8.2)))
def F_X10_isLiked (x1 : Int32) (x2 : Int32) (x3 : Int32) (w : GW) : Option (Int32 × GW) := ((F_X10_isYears w x1).bind fun q1 => (if q1 = 0 then (f_X10_isLiked_17 w) else ((F_X10_areTwo w x2 x3).bind fun q3 => (if q3 = 0 then (f_X10_isLiked_17 w) else ((F_X10_isSwapLiked w x1 x2 x3).bind fun q5 => (if q5 = 0 then (f_X10_isLiked_39 (0 : Int32) w) else (f_X10_isLiked_39 (1 : Int32) w)))))))
def b_X10_yearsTill_44 (k44 : Int32 → Int32 → Int32 → Int32 → Int32 → Option Int32) (w : GW) (x1 : Int32) (x2 : Int32) (x3 : Int32) (x4 : Int32) (x5 : Int32) : Option Int32 := (if (99 : Int32) < x5 then (some (-1 : Int32)) else ((F_X0_greySeated (gsub w e_shX_shB_14) x1 x2 x5).bind fun q6 => ((F_X10_looksBy q6 x4).bind fun q7 => (if gin x3 5 then (if q7 < (w.1 16 x3.toNatClampNeg) then (k44 x1 x2 x3 x4 (x5 + (1 : Int32))) else (some x5)) else none))))
def f_X10_yearsTill_44 (w : GW) : Nat → Int32 → Int32 → Int32 → Int32 → Int32 → Option Int32
  | 0, _, _, _, _, _ => none
  | n + 1, x1, x2, x3, x4, x5 => b_X10_yearsTill_44 (f_X10_yearsTill_44 w n) w x1 x2 x3 x4 x5
def f_X10_yearsTill_39 (w : GW) (x1 : Int32) (x2 : Int32) (x3 : Int32) (s0 : Int32) : Option Int32 := (f_X10_yearsTill_44 w FU x1 x2 x3 s0 (0 : Int32))
def F_X10_yearsTill (w : GW) (x1 : Int32) (x2 : Int32) (x3 : Int32) : Option Int32 := ((F_X0_hasCorner (gsub w e_shX_shB_14) x2).bind fun q1 => (if q1 = 0 then (some (-1 : Int32)) else (if gin x1 6 then (if x2 = (w.1 19 x1.toNatClampNeg) then (f_X10_yearsTill_39 w x1 x2 x3 (w.1 22 x1.toNatClampNeg)) else (f_X10_yearsTill_39 w x1 x2 x3 (0 : Int32))) else none)))
def f_X10_soonestCorner_99 (k38 : Int32 → Int32 → Int32 → Int32 → Int32 → Option Int32) (w : GW) (x1 : Int32) (x2 : Int32) (x3 : Int32) (x4 : Int32) (x5 : Int32) : Option Int32 := (k38 x1 x2 x3 x4 (x5 + (1 : Int32)))
def f_X10_soonestCorner_92 (k38 : Int32 → Int32 → Int32 → Int32 → Int32 → Option Int32) (w : GW) (x1 : Int32) (x2 : Int32) (x5 : Int32) (x6 : Int32) : Option Int32 := (f_X10_soonestCorner_99 k38 w x1 x2 x5 x6 x5)
def b_X10_soonestCorner_38 (k38 : Int32 → Int32 → Int32 → Int32 → Int32 → Option Int32) (w : GW) (x1 : Int32) (x2 : Int32) (x3 : Int32) (x4 : Int32) (x5 : Int32) : Option Int32 := (if (w.1 14 3) ≤ x5 then (some x3) else ((F_X0_sitterIn (gsub w e_shX_shB_14) x5).bind fun q5 => (if q5 = (-1 : Int32) then ((F_X10_yearsTill w x1 x5 x2).bind fun q7 => (if q7 = (-1 : Int32) then (f_X10_soonestCorner_99 k38 w x1 x2 x3 x4 x5) else (if x4 = (-1 : Int32) then (f_X10_soonestCorner_92 k38 w x1 x2 x5 q7) else (if x4 ≤ q7 then (f_X10_soonestCorner_99 k38 w x1 x2 x3 x4 x5) else (f_X10_soonestCorner_92 k38 w x1 x2 x5 q7))))) else (f_X10_soonestCorner_99 k38 w x1 x2 x3 x4 x5))))
def f_X10_soonestCorner_38 (w : GW) : Nat → Int32 → Int32 → Int32 → Int32 → Int32 → Option Int32
  | 0, _, _, _, _, _ => none
  | n + 1, x1, x2, x3, x4, x5 => b_X10_soonestCorner_38 (f_X10_soonestCorner_38 w n) w x1 x2 x3 x4 x5
def f_X10_soonestCorner_35 (w : GW) (x1 : Int32) (x2 : Int32) (x3 : Int32) (x4 : Int32) : Option Int32 := (f_X10_soonestCorner_38 w FU x1 x2 x3 x4 (0 : Int32))
def F_X10_soonestCorner (w : GW) (x1 : Int32) (x2 : Int32) : Option Int32 := (if gin x1 6 then ((F_X10_yearsTill w x1 (w.1 19 x1.toNatClampNeg) x2).bind fun q2 => (if q2 = (-1 : Int32) then (f_X10_soonestCorner_35 w x1 x2 (-1 : Int32) q2) else (f_X10_soonestCorner_35 w x1 x2 (w.1 19 x1.toNatClampNeg) q2))) else none)
def f_X10_soon_22 (w : GW) : Option (Int32 × GW) := ((F_X10_refuse (1 : Int32) w).bind fun q8 => (some (q8.1, q8.2)))
def F_X10_soon (x1 : Int32) (x2 : Int32) (w : GW) : Option (Int32 × GW) := ((F_X0_hasClerk (gsub w e_shX_shB_14) x1).bind fun q1 => (if q1 = 0 then (f_X10_soon_22 w) else ((F_X0_hasRank (gsub w e_shX_shB_14) x2).bind fun q3 => (if q3 = 0 then (f_X10_soon_22 w) else ((F_X10_soonestCorner w x1 x2).bind fun q5 => ((F_X10_yearsTill w x1 q5 x2).bind fun q6 => ((F_X10_answerOrRefuse q6 (6 : Int32) w).bind fun q7 => (some (q7.1, q7.2)))))))))
def f_X10_soonAt_22 (w : GW) : Option (Int32 × GW) := ((F_X10_refuse (1 : Int32) w).bind fun q7 => (some (q7.1, q7.2)))
def F_X10_soonAt (x1 : Int32) (x2 : Int32) (w : GW) : Option (Int32 × GW) := ((F_X0_hasClerk (gsub w e_shX_shB_14) x1).bind fun q1 => (if q1 = 0 then (f_X10_soonAt_22 w) else ((F_X0_hasRank (gsub w e_shX_shB_14) x2).bind fun q3 => (if q3 = 0 then (f_X10_soonAt_22 w) else ((F_X10_soonestCorner w x1 x2).bind fun q5 => ((F_X10_answerOrRefuse q5 (6 : Int32) w).bind fun q6 => (some (q6.1, q6.2))))))))
def b_X10_payOver_6 (k6 : Int32 → Int32 → Int32 → Int32 → Int32 → Option Int32) (w : GW) (x1 : Int32) (x2 : Int32) (x3 : Int32) (x4 : Int32) (x5 : Int32) : Option Int32 := (if x3 ≤ x5 then (some x4) else ((F_X0_greyStaying (gsub w e_shX_shB_14) x1 x5).bind fun q2 => ((F_X10_looksBy q2 x2).bind fun q3 => ((F_X0_payBy (gsub w e_shX_shB_14) q3).bind fun q4 => (k6 x1 x2 x3 (x4 + q4) (x5 + (1 : Int32)))))))
def f_X10_payOver_6 (w : GW) : Nat → Int32 → Int32 → Int32 → Int32 → Int32 → Option Int32
  | 0, _, _, _, _, _ => none
  | n + 1, x1, x2, x3, x4, x5 => b_X10_payOver_6 (f_X10_payOver_6 w n) w x1 x2 x3 x4 x5
def F_X10_payOver (w : GW) (x1 : Int32) (x2 : Int32) (x3 : Int32) : Option Int32 := (f_X10_payOver_6 w FU x1 x2 x3 (0 : Int32) (0 : Int32))
def f_X10_worth_29 (w : GW) : Option (Int32 × GW) := ((F_X10_refuse (1 : Int32) w).bind fun q11 => (some (q11.1, q11.2)))
def F_X10_worth (x1 : Int32) (x2 : Int32) (x3 : Int32) (w : GW) : Option (Int32 × GW) := ((F_X0_hasClerk (gsub w e_shX_shB_14) x1).bind fun q1 => (if q1 = 0 then (f_X10_worth_29 w) else ((F_X10_between x2 (0 : Int32) (99 : Int32)).bind fun q3 => (if q3 = 0 then (f_X10_worth_29 w) else ((F_X10_isYears w x3).bind fun q5 => (if q5 = 0 then (f_X10_worth_29 w) else (if gin x1 6 then ((F_X10_payOver w x1 (imin (99 : Int32) ((w.1 22 x1.toNatClampNeg) + x2)) x3).bind fun q8 => ((F_X10_payOver w x1 (w.1 22 x1.toNatClampNeg) x3).bind fun q9 => ((F_X10_answer (q8 - q9) w).bind fun q10 => (some (q10.1, q10.2))))) else none)))))))
def f_X10_leastFan_22 (w : GW) : Option (Int32 × GW) := ((F_X10_refuse (1 : Int32) w).bind fun q8 => (some (q8.1, q8.2)))
def F_X10_leastFan (x1 : Int32) (x2 : Int32) (w : GW) : Option (Int32 × GW) := ((F_X0_hasClerk (gsub w e_shX_shB_14) x1).bind fun q1 => (if q1 = 0 then (f_X10_leastFan_22 w) else ((F_X0_hasRank (gsub w e_shX_shB_14) x2).bind fun q3 => (if q3 = 0 then (f_X10_leastFan_22 w) else (if gin x2 5 then ((F_X0_looksOf (gsub w e_shX_shB_14) x1).bind fun q6 => ((F_X10_answer (imax (0 : Int32) ((w.1 16 x2.toNatClampNeg) - q6)) w).bind fun q7 => (some (q7.1, q7.2)))) else none)))))
def F_X10_fits (x1 : Int32) (x2 : Int32) (w : GW) : Option (Int32 × GW) := ((F_X9_whyNoTwos (gsub w e_shX_shTr_1) x1 x2).bind fun q1 => (if q1 = 0 then ((F_X9_fittingStills (gsub w e_shX_shTr_1) x1 x2).bind fun q3 => ((F_J6_bitCount_0f7a4 q3).bind fun q4 => ((F_X10_answer q4 w).bind fun q5 => (some (q5.1, q5.2))))) else ((F_X10_refuse q1 w).bind fun q6 => (some (q6.1, q6.2)))))
def f_X10_memberAt_27 (k4 : Int32 → Int32 → Int32 → Option Int32) (x0 : Int32) (x2 : Int32) (x3 : Int32) : Option Int32 := (k4 x0 x2 (x3 + (1 : Int32)))
def b_X10_memberAt_4 (k4 : Int32 → Int32 → Int32 → Option Int32) (x0 : Int32) (x2 : Int32) (x3 : Int32) : Option Int32 := (if (9 : Int32) < x3 then (some (-1 : Int32)) else (if (x0 &&& ((1 : Int32) <<< (x3 &&& 31))) = 0 then (f_X10_memberAt_27 k4 x0 x2 x3) else (if x2 = 0 then (some x3) else (f_X10_memberAt_27 k4 x0 (x2 + (-1 : Int32)) x3))))
def f_X10_memberAt_4 : Nat → Int32 → Int32 → Int32 → Option Int32
  | 0, _, _, _ => none
  | n + 1, x0, x2, x3 => b_X10_memberAt_4 (f_X10_memberAt_4 n) x0 x2 x3
def F_X10_memberAt (x0 : Int32) (x1 : Int32) : Option Int32 := (f_X10_memberAt_4 FU x0 x1 (0 : Int32))
def f_X10_fitsAt_17 (x1 : Int32) (x2 : Int32) (x3 : Int32) (s0 : Int32) (w : GW) : Option (Int32 × GW) := (if s0 = 0 then ((F_X9_fittingStills (gsub w e_shX_shTr_1) x1 x2).bind fun q4 => ((F_X10_memberAt q4 x3).bind fun q5 => ((F_X10_answerOrRefuse q5 (6 : Int32) w).bind fun q6 => (some (q6.1, q6.2))))) else ((F_X10_refuse s0 w).bind fun q7 => (some (q7.1, q7.2))))
def F_X10_fitsAt (x1 : Int32) (x2 : Int32) (x3 : Int32) (w : GW) : Option (Int32 × GW) := (if 0 ≤ x3 then ((F_X9_whyNoTwos (gsub w e_shX_shTr_1) x1 x2).bind fun q2 => (f_X10_fitsAt_17 x1 x2 x3 q2 w)) else (f_X10_fitsAt_17 x1 x2 x3 (1 : Int32) w))
def f_X10_mostAlike_51 (k16 : Int32 → Int32 → Int32 → Int32 → Int32 → Int32 → Option Int32) (x0 : Int32) (x1 : Int32) (x2 : Int32) (x3 : Int32) (x4 : Int32) (x5 : Int32) : Option Int32 := (k16 x0 x1 x2 x3 x4 (x5 + (1 : Int32)))
def b_X10_mostAlike_16 (k4 : Int32 → Int32 → Int32 → Int32 → Option Int32) (k16 : Int32 → Int32 → Int32 → Int32 → Int32 → Int32 → Option Int32) (x0 : Int32) (x1 : Int32) (x2 : Int32) (x3 : Int32) (x4 : Int32) (x5 : Int32) : Option Int32 := (if (9 : Int32) < x5 then (k4 x0 x1 (imax x2 x4) (x3 + (1 : Int32))) else (if (x0 &&& ((1 : Int32) <<< (x5 &&& 31))) = 0 then (f_X10_mostAlike_51 k16 x0 x1 x2 x3 x4 x5) else ((F_X10_greyGrown (0 : Int32) x5 x1).bind fun q4 => ((F_X10_greyGrown (0 : Int32) x3 x1).bind fun q5 => (if q4 = q5 then (f_X10_mostAlike_51 k16 x0 x1 x2 x3 (x4 + (1 : Int32)) x5) else (f_X10_mostAlike_51 k16 x0 x1 x2 x3 x4 x5))))))
def f_X10_mostAlike_16 (k4 : Int32 → Int32 → Int32 → Int32 → Option Int32) : Nat → Int32 → Int32 → Int32 → Int32 → Int32 → Int32 → Option Int32
  | 0, _, _, _, _, _, _ => none
  | n + 1, x0, x1, x2, x3, x4, x5 => b_X10_mostAlike_16 k4 (f_X10_mostAlike_16 k4 n) x0 x1 x2 x3 x4 x5
def b_X10_mostAlike_4 (k4 : Int32 → Int32 → Int32 → Int32 → Option Int32) (x0 : Int32) (x1 : Int32) (x2 : Int32) (x3 : Int32) : Option Int32 := (if (9 : Int32) < x3 then (some x2) else (f_X10_mostAlike_16 k4 FU x0 x1 x2 x3 (0 : Int32) (0 : Int32)))
def f_X10_mostAlike_4 : Nat → Int32 → Int32 → Int32 → Int32 → Option Int32
  | 0, _, _, _, _ => none
  | n + 1, x0, x1, x2, x3 => b_X10_mostAlike_4 (f_X10_mostAlike_4 n) x0 x1 x2 x3
def F_X10_mostAlike (x0 : Int32) (x1 : Int32) : Option Int32 := (f_X10_mostAlike_4 FU x0 x1 (0 : Int32) (0 : Int32))
def f_X10_ask_81 (k53 : Int32 → Int32 → Int32 → GW → Option (Int32 × GW)) (x4 : Int32) (x5 : Int32) (x6 : Int32) (w : GW) : Option (Int32 × GW) := (k53 x4 x5 (x6 + (1 : Int32)) w)
def b_X10_ask_53 (k53 : Int32 → Int32 → Int32 → GW → Option (Int32 × GW)) (x4 : Int32) (x5 : Int32) (x6 : Int32) (w : GW) : Option (Int32 × GW) := (if (20 : Int32) < x6 then ((F_X10_answer x5 w).bind fun q9 => (some (q9.1, q9.2))) else ((F_X10_mostAlike x4 x6).bind fun q10 => ((F_X10_mostAlike x4 x5).bind fun q11 => (if q11 ≤ q10 then (f_X10_ask_81 k53 x4 x5 x6 w) else (f_X10_ask_81 k53 x4 x6 x6 w)))))
def f_X10_ask_53 : Nat → Int32 → Int32 → Int32 → GW → Option (Int32 × GW)
  | 0, _, _, _, _ => none
  | n + 1, x4, x5, x6, w => b_X10_ask_53 (f_X10_ask_53 n) x4 x5 x6 w
def F_X10_ask (x1 : Int32) (x2 : Int32) (w : GW) : Option (Int32 × GW) := ((F_X9_whyNoTwos (gsub w e_shX_shTr_1) x1 x2).bind fun q1 => (if q1 = 0 then ((F_X9_fittingStills (gsub w e_shX_shTr_1) x1 x2).bind fun q3 => ((F_J6_bitCount_0f7a4 q3).bind fun q4 => (if (2 : Int32) ≤ q4 then (f_X10_ask_53 FU q3 (1 : Int32) (2 : Int32) w) else ((F_X10_refuse (6 : Int32) w).bind fun q6 => (some (q6.1, q6.2)))))) else ((F_X10_refuse q1 w).bind fun q7 => (some (q7.1, q7.2)))))
def F_X10_comes (w : GW) : Option (Int32 × GW) := ((F_X0_comingWithout (gsub w e_shX_shB_14) (0 : Int32)).bind fun q1 => ((F_X10_answer q1 w).bind fun q2 => (some (q2.1, q2.2))))
def F_X10_comesFor (w : GW) : Option (Int32 × GW) := ((F_X0_comingWithout (gsub w e_shX_shB_14) (0 : Int32)).bind fun q1 => ((F_X0_sumOf (gsub w e_shX_shB_14) q1).bind fun q2 => ((F_X10_answer q2 w).bind fun q3 => (some (q3.1, q3.2)))))
def f_X10_leastCalmed_59 (k16 : Int32 → Int32 → Int32 → Option Int32) (w : GW) (x1 : Int32) (x2 : Int32) (x3 : Int32) : Option Int32 := (k16 x1 x2 (x3 + (1 : Int32)))
def b_X10_leastCalmed_16 (k16 : Int32 → Int32 → Int32 → Option Int32) (w : GW) (x1 : Int32) (x2 : Int32) (x3 : Int32) : Option Int32 := (if x1 < x3 then (some x2) else ((F_J6_bitCount_0f7a4 x3).bind fun q2 => ((F_J6_bitCount_0f7a4 x2).bind fun q3 => (if q3 ≤ q2 then (f_X10_leastCalmed_59 k16 w x1 x2 x3) else ((F_X0_comingWithout (gsub w e_shX_shB_14) x3).bind fun q5 => ((F_X0_sumOf (gsub w e_shX_shB_14) q5).bind fun q6 => (if (w.1 14 1) < q6 then (f_X10_leastCalmed_59 k16 w x1 x2 x3) else (f_X10_leastCalmed_59 k16 w x1 x3 x3))))))))
def f_X10_leastCalmed_16 (w : GW) : Nat → Int32 → Int32 → Int32 → Option Int32
  | 0, _, _, _ => none
  | n + 1, x1, x2, x3 => b_X10_leastCalmed_16 (f_X10_leastCalmed_16 w n) w x1 x2 x3
def F_X10_leastCalmed (w : GW) : Option Int32 := (f_X10_leastCalmed_16 w FU (((1 : Int32) <<< ((w.1 14 6) &&& 31)) - (1 : Int32)) (((1 : Int32) <<< ((w.1 14 6) &&& 31)) - (1 : Int32)) (0 : Int32))
def F_X10_calms (w : GW) : Option (Int32 × GW) := ((F_X10_leastCalmed w).bind fun q1 => ((F_J6_bitCount_0f7a4 q1).bind fun q2 => ((F_X10_answer q2 w).bind fun q3 => (some (q3.1, q3.2)))))
def F_X10_calmSet (w : GW) : Option (Int32 × GW) := ((F_X10_leastCalmed w).bind fun q1 => ((F_X10_answer q1 w).bind fun q2 => (some (q2.1, q2.2))))
def f_X10_gainFrom_91 (rec : Int32 → Int32 → Option Int32) (k27 : Int32 → Int32 → Int32 → Int32 → Option Int32) (w : GW) (x1 : Int32) (x2 : Int32) (x3 : Int32) (x4 : Int32) : Option Int32 := (k27 x1 x2 x3 (x4 + (1 : Int32)))
def f_X10_gainFrom_90 (rec : Int32 → Int32 → Option Int32) (k27 : Int32 → Int32 → Int32 → Int32 → Option Int32) (w : GW) (x1 : Int32) (x2 : Int32) (x4 : Int32) (s0 : Int32) : Option Int32 := (f_X10_gainFrom_91 rec k27 w x1 x2 s0 x4)
def b_X10_gainFrom_27 (rec : Int32 → Int32 → Option Int32) (k27 : Int32 → Int32 → Int32 → Int32 → Option Int32) (w : GW) (x1 : Int32) (x2 : Int32) (x3 : Int32) (x4 : Int32) : Option Int32 := (if (w.1 0 0) ≤ x4 then (some x3) else (if (x2 &&& ((1 : Int32) <<< (x4 &&& 31))) = 0 then ((F_X2_gainBy w x4 x1).bind fun q6 => ((rec (x1 + (1 : Int32)) (x2 ||| ((1 : Int32) <<< (x4 &&& 31)))).bind fun q7 => ((F_X2_isSittersTurn x1).bind fun q8 => (if q8 = 0 then (f_X10_gainFrom_90 rec k27 w x1 x2 x4 (imin x3 (q6 + q7))) else (f_X10_gainFrom_90 rec k27 w x1 x2 x4 (imax x3 (q6 + q7))))))) else (f_X10_gainFrom_91 rec k27 w x1 x2 x3 x4)))
def f_X10_gainFrom_27 (rec : Int32 → Int32 → Option Int32) (w : GW) : Nat → Int32 → Int32 → Int32 → Int32 → Option Int32
  | 0, _, _, _, _ => none
  | n + 1, x1, x2, x3, x4 => b_X10_gainFrom_27 rec (f_X10_gainFrom_27 rec w n) w x1 x2 x3 x4
def B_X10_gainFrom (rec : Int32 → Int32 → Option Int32) (w : GW) (x1 : Int32) (x2 : Int32) : Option Int32 := (if (w.1 0 1) ≤ x1 then (some (0 : Int32)) else (if x1 < (4 : Int32) then ((rec (x1 + (1 : Int32)) x2).bind fun q3 => (f_X10_gainFrom_27 rec w FU x1 x2 q3 (0 : Int32))) else (some (0 : Int32))))
def FR_X10_gainFrom (w : GW) : Nat → Int32 → Int32 → Option Int32
  | 0, _, _ => none
  | n + 1, x1, x2 => B_X10_gainFrom (FR_X10_gainFrom w n) w x1 x2
def F_X10_gainFrom (w : GW) (x1 : Int32) (x2 : Int32) : Option Int32 := FR_X10_gainFrom w 6 x1 x2
def f_X10_game_20 (w : GW) : Option (Int32 × GW) := ((F_X10_refuse (1 : Int32) w).bind fun q10 => (some (q10.1, q10.2)))
def F_X10_game (x1 : Int32) (x2 : Int32) (w : GW) : Option (Int32 × GW) := ((F_X0_hasRank (gsub w e_shX_shB_14) x1).bind fun q1 => (if q1 = 0 then (f_X10_game_20 w) else ((F_X10_between x2 (0 : Int32) (4 : Int32)).bind fun q3 => (if q3 = 0 then (f_X10_game_20 w) else (if gin x1 5 then ((F_X2_prepare (w.1 16 x1.toNatClampNeg) x2 (gsub w e_shX_shGB_134_14)).bind fun q6 => ((F_X2_standing (gsub (gput w e_shX_shGB_134_14 q6) e_shX_shG_134)).bind fun q7 => ((F_X10_gainFrom (gsub (gput w e_shX_shGB_134_14 q6) e_shX_shG_134) (0 : Int32) (0 : Int32)).bind fun q8 => ((F_X10_answer (q7 + q8) (gput w e_shX_shGB_134_14 q6)).bind fun q9 => (some (q9.1, q9.2)))))) else none)))))
def f_X10_who_20 (w : GW) : Option (Int32 × GW) := ((F_X10_refuse (1 : Int32) w).bind fun q8 => (some (q8.1, q8.2)))
def b_X10_who_60 (k60 : Int32 → Int32 → GW → Option (Int32 × GW)) (x3 : Int32) (x4 : Int32) (w : GW) : Option (Int32 × GW) := (if (w.1 134 0) ≤ x4 then ((F_X10_refuse (6 : Int32) w).bind fun q10 => (some (q10.1, q10.2))) else ((F_X2_gainBy (gsub w e_shX_shG_134) x4 (0 : Int32)).bind fun q11 => ((F_X10_gainFrom (gsub w e_shX_shG_134) (1 : Int32) ((1 : Int32) <<< (x4 &&& 31))).bind fun q12 => (if (q11 + q12) = x3 then ((F_X10_answer x4 w).bind fun q14 => (some (q14.1, q14.2))) else (k60 x3 (x4 + (1 : Int32)) w)))))
def f_X10_who_60 : Nat → Int32 → Int32 → GW → Option (Int32 × GW)
  | 0, _, _, _ => none
  | n + 1, x3, x4, w => b_X10_who_60 (f_X10_who_60 n) x3 x4 w
def F_X10_who (x1 : Int32) (x2 : Int32) (w : GW) : Option (Int32 × GW) := ((F_X0_hasRank (gsub w e_shX_shB_14) x1).bind fun q1 => (if q1 = 0 then (f_X10_who_20 w) else ((F_X10_between x2 (1 : Int32) (4 : Int32)).bind fun q3 => (if q3 = 0 then (f_X10_who_20 w) else (if gin x1 5 then ((F_X2_prepare (w.1 16 x1.toNatClampNeg) x2 (gsub w e_shX_shGB_134_14)).bind fun q6 => ((F_X10_gainFrom (gsub (gput w e_shX_shGB_134_14 q6) e_shX_shG_134) (0 : Int32) (0 : Int32)).bind fun q7 => (f_X10_who_60 FU q7 (0 : Int32) (gput w e_shX_shGB_134_14 q6)))) else none)))))
def b_X10_power_5 (k5 : Int32 → Int32 → Int64 → Int32 → Option Int64) (x0 : Int32) (x1 : Int32) (x2 : Int64) (x4 : Int32) : Option Int64 := (if x1 ≤ x4 then (some x2) else (k5 x0 x1 (x2 * x0.toInt64) (x4 + (1 : Int32))))
def f_X10_power_5 : Nat → Int32 → Int32 → Int64 → Int32 → Option Int64
  | 0, _, _, _, _ => none
  | n + 1, x0, x1, x2, x4 => b_X10_power_5 (f_X10_power_5 n) x0 x1 x2 x4
def F_X10_power (x0 : Int32) (x1 : Int32) : Option Int64 := (f_X10_power_5 FU x0 x1 (1 : Int64) (0 : Int32))
def F_X10_waysOfShams (w : GW) (x1 : Int32) : Option Int64 := ((F_X10_power (w.1 14 0) x1).bind fun q1 => ((F_X10_power ((16 : Int32) - (w.1 14 0)) ((w.1 14 5) - x1)).bind fun q2 => (some (q1 * q2))))
def f_X10_shams_56 (k21 : Int32 → Int64 → Int32 → GW → Option (Int32 × GW)) (x1 : Int32) (x2 : Int64) (x4 : Int32) (w : GW) : Option (Int32 × GW) := (k21 x1 x2 (x4 + (1 : Int32)) w)
def b_X10_shams_21 (k21 : Int32 → Int64 → Int32 → GW → Option (Int32 × GW)) (x1 : Int32) (x2 : Int64) (x4 : Int32) (w : GW) : Option (Int32 × GW) := (if ((1 : Int32) <<< ((w.1 14 5) &&& 31)) ≤ x4 then ((F_X10_power (16 : Int32) (w.1 14 5)).bind fun q6 => ((F_X10_grantFraction x2 q6 w).bind fun q7 => (if q7.1 = 0 ∨ q7.1 = 1 then some (q7.1, q7.2) else none))) else ((F_J6_bitCount_0f7a4 x4).bind fun q9 => (if q9 < x1 then (f_X10_shams_56 k21 x1 x2 x4 w) else ((F_J6_bitCount_0f7a4 x4).bind fun q11 => ((F_X10_waysOfShams w q11).bind fun q12 => (f_X10_shams_56 k21 x1 (x2 + q12) x4 w))))))
def f_X10_shams_21 : Nat → Int32 → Int64 → Int32 → GW → Option (Int32 × GW)
  | 0, _, _, _, _ => none
  | n + 1, x1, x2, x4, w => b_X10_shams_21 (f_X10_shams_21 n) x1 x2 x4 w
def F_X10_shams (x1 : Int32) (w : GW) : Option (Int32 × GW) := ((F_X10_between x1 (0 : Int32) (6 : Int32)).bind fun q1 => (if q1 = 0 then ((F_X10_deny (1 : Int32) w).bind fun q3 => (if q3.1 = 0 ∨ q3.1 = 1 then some (q3.1, q3.2) else none)) else (f_X10_shams_21 FU x1 (0 : Int64) (0 : Int32) w)))
def F_X10_share (x1 : Int32) (w : GW) : Option (Int32 × GW) := ((F_X0_hasClerk (gsub w e_shX_shB_14) x1).bind fun q1 => (if q1 = 0 then ((F_X10_deny (1 : Int32) w).bind fun q10 => (if q10.1 = 0 ∨ q10.1 = 1 then some (q10.1, q10.2) else none)) else ((F_X0_greyOfAll (gsub w e_shX_shB_14)).bind fun q3 => (if q3 = 0 then ((F_X10_deny (6 : Int32) w).bind fun q8 => (if q8.1 = 0 ∨ q8.1 = 1 then some (q8.1, q8.2) else none)) else (if gin x1 6 then ((F_X10_grantFraction (w.1 21 x1.toNatClampNeg).toInt64 q3.toInt64 w).bind fun q6 => (if q6.1 = 0 ∨ q6.1 = 1 then some (q6.1, q6.2) else none)) else none)))))
def b_X10_copyGrey_61 (k61 : Int32 → Int32 → GW → Option (Int32 × GW)) (x1 : Int32) (x2 : Int32) (w : GW) : Option (Int32 × GW) := (if (w.1 14 5) ≤ x2 then ((F_X10_answer (w.1 14 5) w).bind fun q11 => (some (q11.1, q11.2))) else (if gin x2 6 then ((F_X9_put x1 x2 (w.1 21 x2.toNatClampNeg).toInt64 (gsub w e_shX_shTr_1)).bind fun q13 => (k61 x1 (x2 + (1 : Int32)) (gput w e_shX_shTr_1 q13))) else none))
def f_X10_copyGrey_61 : Nat → Int32 → Int32 → GW → Option (Int32 × GW)
  | 0, _, _, _ => none
  | n + 1, x1, x2, w => b_X10_copyGrey_61 (f_X10_copyGrey_61 n) x1 x2 w
def F_X10_copyGrey (x1 : Int32) (w : GW) : Option (Int32 × GW) := ((F_X9_isTray (gsub w e_shX_shTr_1) x1).bind fun q1 => (if q1 = 0 then ((F_X10_refuse (1 : Int32) w).bind fun q9 => (some (q9.1, q9.2))) else ((F_X9_isThere (gsub w e_shX_shTr_1) x1).bind fun q3 => (if q3 = 0 then ((F_X10_refuse (2 : Int32) w).bind fun q8 => (some (q8.1, q8.2))) else ((F_X9_hasFrom (gsub w e_shX_shTr_1) x1 (0 : Int32) (w.1 14 5)).bind fun q5 => (if q5 = 0 then ((F_X10_refuse (3 : Int32) w).bind fun q7 => (some (q7.1, q7.2))) else (f_X10_copyGrey_61 FU x1 (0 : Int32) w)))))))
def F_X10_live (x1 : Int32) (w : GW) : Option (Int32 × GW) := ((F_X10_between x1 (0 : Int32) (9999 : Int32)).bind fun q1 => (if q1 = 0 then ((F_X10_refuse (1 : Int32) w).bind fun q7 => (some (q7.1, q7.2))) else (if (w.1 40 0) = 0 then ((F_X10_refuse (6 : Int32) w).bind fun q6 => (some (q6.1, q6.2))) else ((F_X3_goThrough x1 (gsub w e_shX_shL_126_14_40)).bind fun q4 => ((F_X10_answer (q4.1 0 0) (gI (gput w e_shX_shL_126_14_40 q4) 0 14 (1 : Int32))).bind fun q5 => (some (q5.1, q5.2)))))))
def f_X10_lived_124 (s0 : Int32) (w : GW) : Option (Int32 × GW) := ((F_X10_answer s0 w).bind fun q15 => (some (q15.1, q15.2)))
def F_X10_lived (x1 : Int32) (w : GW) : Option (Int32 × GW) := ((F_X10_between x1 (0 : Int32) (4 : Int32)).bind fun q1 => (if q1 = 0 then ((F_X10_refuse (1 : Int32) w).bind fun q14 => (some (q14.1, q14.2))) else (if (w.1 0 14) = 0 then ((F_X10_refuse (6 : Int32) w).bind fun q13 => (some (q13.1, q13.2))) else (if x1 = (0 : Int32) then ((F_X10_answer (w.1 126 1) w).bind fun q5 => (some (q5.1, q5.2))) else (if x1 = (1 : Int32) then ((F_X10_answer (w.1 126 2) w).bind fun q7 => (some (q7.1, q7.2))) else (if x1 = (2 : Int32) then ((F_X10_answer (w.1 126 3) w).bind fun q9 => (some (q9.1, q9.2))) else (if x1 = (3 : Int32) then ((F_X10_answer (w.1 126 4) w).bind fun q11 => (some (q11.1, q11.2))) else (if (w.1 126 5) = 0 then (f_X10_lived_124 (0 : Int32) w) else (f_X10_lived_124 (1 : Int32) w)))))))))
def f_X10_mean_32 (w : GW) : Option (Int32 × GW) := ((F_X10_deny (1 : Int32) w).bind fun q9 => (if q9.1 = 0 ∨ q9.1 = 1 then some (q9.1, q9.2) else none))
def b_X10_mean_60 (k60 : Int32 → Int32 → Int64 → Int32 → GW → Option (Int32 × GW)) (x1 : Int32) (x2 : Int32) (x3 : Int64) (x5 : Int32) (w : GW) : Option (Int32 × GW) := (if x2 ≤ x5 then ((F_X10_grantFraction x3 x2.toInt64 w).bind fun q12 => (if q12.1 = 0 ∨ q12.1 = 1 then some (q12.1, q12.2) else none)) else ((F_X0_copyFrom (gsub w e_shX_shBB_27_14)).bind fun q14 => ((F_X3_goThrough (x1 + x5) (gsub (gput w e_shX_shBB_27_14 q14) e_shX_shL_129_27_40)).bind fun q15 => ((F_X0_greyOfAll (gsub (gput (gput w e_shX_shBB_27_14 q14) e_shX_shL_129_27_40 q15) e_shX_shB_27)).bind fun q16 => (k60 x1 x2 (x3 + q16.toInt64) (x5 + (1 : Int32)) (gput (gput w e_shX_shBB_27_14 q14) e_shX_shL_129_27_40 q15))))))
def f_X10_mean_60 : Nat → Int32 → Int32 → Int64 → Int32 → GW → Option (Int32 × GW)
  | 0, _, _, _, _, _ => none
  | n + 1, x1, x2, x3, x5, w => b_X10_mean_60 (f_X10_mean_60 n) x1 x2 x3 x5 w
def F_X10_mean (x1 : Int32) (x2 : Int32) (w : GW) : Option (Int32 × GW) := ((F_X10_between x1 (0 : Int32) (9999 : Int32)).bind fun q1 => (if q1 = 0 then (f_X10_mean_32 w) else ((F_X10_between x2 (1 : Int32) (20 : Int32)).bind fun q3 => (if q3 = 0 then (f_X10_mean_32 w) else (if ((x1 + x2) - (1 : Int32)) ≤ (9999 : Int32) then (if (w.1 40 0) = 0 then ((F_X10_deny (6 : Int32) w).bind fun q7 => (if q7.1 = 0 ∨ q7.1 = 1 then some (q7.1, q7.2) else none)) else (f_X10_mean_60 FU x1 x2 (0 : Int64) (0 : Int32) w)) else (f_X10_mean_32 w))))))
def F_X10_mark (w : GW) : Option (Int32 × GW) := (if (w.1 0 13) < (3 : Int32) then (if (w.1 0 13) = (0 : Int32) then ((F_X0_copyFrom (gsub w e_shX_shBB_61_14)).bind fun q3 => ((F_X5_copyFrom (gsub (gput w e_shX_shBB_61_14 q3) e_shX_shPP_74_40)).bind fun q4 => ((F_X10_answer ((w.1 0 13) + (1 : Int32)) (gI (gput (gput w e_shX_shBB_61_14 q3) e_shX_shPP_74_40 q4) 0 13 ((w.1 0 13) + (1 : Int32)))).bind fun q5 => (some (q5.1, q5.2))))) else (if (w.1 0 13) = (1 : Int32) then ((F_X0_copyFrom (gsub w e_shX_shBB_83_14)).bind fun q7 => ((F_X5_copyFrom (gsub (gput w e_shX_shBB_83_14 q7) e_shX_shPP_96_40)).bind fun q8 => ((F_X10_answer ((w.1 0 13) + (1 : Int32)) (gI (gput (gput w e_shX_shBB_83_14 q7) e_shX_shPP_96_40 q8) 0 13 ((w.1 0 13) + (1 : Int32)))).bind fun q9 => (some (q9.1, q9.2))))) else (if (w.1 0 13) = (2 : Int32) then ((F_X0_copyFrom (gsub w e_shX_shBB_105_14)).bind fun q11 => ((F_X5_copyFrom (gsub (gput w e_shX_shBB_105_14 q11) e_shX_shPP_118_40)).bind fun q12 => ((F_X10_answer ((w.1 0 13) + (1 : Int32)) (gI (gput (gput w e_shX_shBB_105_14 q11) e_shX_shPP_118_40 q12) 0 13 ((w.1 0 13) + (1 : Int32)))).bind fun q13 => (some (q13.1, q13.2))))) else none))) else ((F_X10_refuse (4 : Int32) w).bind fun q14 => (some (q14.1, q14.2))))
def F_X10_undo (w : GW) : Option (Int32 × GW) := (if 0 < (w.1 0 13) then (if ((w.1 0 13) - (1 : Int32)) = (0 : Int32) then ((F_X0_copyFrom (gsub (gI w 0 13 ((w.1 0 13) - (1 : Int32))) e_shX_shBB_14_61)).bind fun q3 => ((F_X5_copyFrom (gsub (gput (gI w 0 13 ((w.1 0 13) - (1 : Int32))) e_shX_shBB_14_61 q3) e_shX_shPP_40_74)).bind fun q4 => ((F_X10_answer ((w.1 0 13) - (1 : Int32)) (gput (gput (gI w 0 13 ((w.1 0 13) - (1 : Int32))) e_shX_shBB_14_61 q3) e_shX_shPP_40_74 q4)).bind fun q5 => (some (q5.1, q5.2))))) else (if ((w.1 0 13) - (1 : Int32)) = (1 : Int32) then ((F_X0_copyFrom (gsub (gI w 0 13 ((w.1 0 13) - (1 : Int32))) e_shX_shBB_14_83)).bind fun q7 => ((F_X5_copyFrom (gsub (gput (gI w 0 13 ((w.1 0 13) - (1 : Int32))) e_shX_shBB_14_83 q7) e_shX_shPP_40_96)).bind fun q8 => ((F_X10_answer ((w.1 0 13) - (1 : Int32)) (gput (gput (gI w 0 13 ((w.1 0 13) - (1 : Int32))) e_shX_shBB_14_83 q7) e_shX_shPP_40_96 q8)).bind fun q9 => (some (q9.1, q9.2))))) else (if ((w.1 0 13) - (1 : Int32)) = (2 : Int32) then ((F_X0_copyFrom (gsub (gI w 0 13 ((w.1 0 13) - (1 : Int32))) e_shX_shBB_14_105)).bind fun q11 => ((F_X5_copyFrom (gsub (gput (gI w 0 13 ((w.1 0 13) - (1 : Int32))) e_shX_shBB_14_105 q11) e_shX_shPP_40_118)).bind fun q12 => ((F_X10_answer ((w.1 0 13) - (1 : Int32)) (gput (gput (gI w 0 13 ((w.1 0 13) - (1 : Int32))) e_shX_shBB_14_105 q11) e_shX_shPP_40_118 q12)).bind fun q13 => (some (q13.1, q13.2))))) else none))) else ((F_X10_refuse (6 : Int32) w).bind fun q14 => (some (q14.1, q14.2))))
set_option maxHeartbeats 4000000 in
set_option maxRecDepth 100000 in
theorem c_X10_status (l : Launch) (D : va_G) (cA ad : Nat → Nat) (hin : gInj ad shX.length) (w : GW) (q : Int32) (hf : F_X10_status w = some q) : gMet l yX10_status cX10_status 1 (some .int) 1 120 D cA ad shX [.ref 0] w (some (.int q)) w := by
  refine g_entry (by decide) hin (Nat.le_of_ble_eq_true rfl) ?_
  intro p e s m args below meth c C
  unfold F_X10_status at hf
  show gW p l e (gRm 1 120) s m args below meth c D cA ad shX 1 0 0 (gQ below D cA ad shX (some (.int q)) w args s) 0 [(0, .ref 0)] [] w
  refine g_aload_n C (gdec dt_X10_status 0 rfl) (i := 0) rfl rfl ?_
  refine g_geti C kf_X10_99 rfl rfl (gdec dt_X10_status 1 rfl) ?_
  cases hf
  exact g_iret C rfl (gdec dt_X10_status 2 rfl)
set_option maxHeartbeats 4000000 in
set_option maxRecDepth 100000 in
theorem c_X10_top (l : Launch) (D : va_G) (cA ad : Nat → Nat) (hin : gInj ad shX.length) (w : GW) (q : Int64) (hf : F_X10_top w = some q) : gMet l yX10_top cX10_top 1 (some .long) 1 120 D cA ad shX [.ref 0] w (some (.long q)) w := by
  refine g_entry (by decide) hin (Nat.le_of_ble_eq_true rfl) ?_
  intro p e s m args below meth c C
  unfold F_X10_top at hf
  show gW p l e (gRm 1 120) s m args below meth c D cA ad shX 1 0 0 (gQ below D cA ad shX (some (.long q)) w args s) 0 [(0, .ref 0)] [] w
  refine g_aload_n C (gdec dt_X10_top 0 rfl) (i := 0) rfl rfl ?_
  refine g_getl C kf_X10_102 rfl rfl (gdec dt_X10_top 1 rfl) ?_
  cases hf
  exact g_lret C rfl (gdec dt_X10_top 2 rfl)
set_option maxHeartbeats 4000000 in
set_option maxRecDepth 100000 in
theorem c_X10_bottom (l : Launch) (D : va_G) (cA ad : Nat → Nat) (hin : gInj ad shX.length) (w : GW) (q : Int64) (hf : F_X10_bottom w = some q) : gMet l yX10_bottom cX10_bottom 1 (some .long) 1 120 D cA ad shX [.ref 0] w (some (.long q)) w := by
  refine g_entry (by decide) hin (Nat.le_of_ble_eq_true rfl) ?_
  intro p e s m args below meth c C
  unfold F_X10_bottom at hf
  show gW p l e (gRm 1 120) s m args below meth c D cA ad shX 1 0 0 (gQ below D cA ad shX (some (.long q)) w args s) 0 [(0, .ref 0)] [] w
  refine g_aload_n C (gdec dt_X10_bottom 0 rfl) (i := 0) rfl rfl ?_
  refine g_getl C kf_X10_106 rfl rfl (gdec dt_X10_bottom 1 rfl) ?_
  cases hf
  exact g_lret C rfl (gdec dt_X10_bottom 2 rfl)
set_option maxHeartbeats 4000000 in
set_option maxRecDepth 100000 in
theorem c_X10_answer (l : Launch) (D : va_G) (cA ad : Nat → Nat) (hin : gInj ad shX.length) (w : GW) (x1 : Int32) (q : (Int32 × GW)) (hf : F_X10_answer x1 w = some q) : gMet l yX10_answer cX10_answer 2 (some .int) 1 120 D cA ad shX [.ref 0, .int x1] w (some (.int q.1)) q.2 := by
  refine g_entry (by decide) hin (Nat.le_of_ble_eq_true rfl) ?_
  intro p e s m args below meth c C
  unfold F_X10_answer at hf
  show gW p l e (gRm 1 120) s m args below meth c D cA ad shX 2 0 0 (gQ below D cA ad shX (some (.int q.1)) q.2 args s) 0 [(0, .ref 0), (1, .int x1)] [] w
  refine g_aload_n C (gdec dt_X10_answer 0 rfl) (i := 0) rfl rfl ?_
  refine g_iconst C (gdec dt_X10_answer 1 rfl) ic_0 ?_
  refine g_puti C kf_X10_99 rfl rfl (gdec dt_X10_answer 2 rfl) ?_
  refine g_iload_n C (gdec dt_X10_answer 3 rfl) (i := 1) rfl rfl ?_
  cases hf
  exact g_iret C rfl (gdec dt_X10_answer 4 rfl)
set_option maxHeartbeats 4000000 in
set_option maxRecDepth 100000 in
theorem c_X10_refuse (l : Launch) (D : va_G) (cA ad : Nat → Nat) (hin : gInj ad shX.length) (w : GW) (x1 : Int32) (q : (Int32 × GW)) (hf : F_X10_refuse x1 w = some q) : gMet l yX10_refuse cX10_refuse 2 (some .int) 1 120 D cA ad shX [.ref 0, .int x1] w (some (.int q.1)) q.2 := by
  refine g_entry (by decide) hin (Nat.le_of_ble_eq_true rfl) ?_
  intro p e s m args below meth c C
  unfold F_X10_refuse at hf
  show gW p l e (gRm 1 120) s m args below meth c D cA ad shX 2 0 0 (gQ below D cA ad shX (some (.int q.1)) q.2 args s) 0 [(0, .ref 0), (1, .int x1)] [] w
  refine g_aload_n C (gdec dt_X10_refuse 0 rfl) (i := 0) rfl rfl ?_
  refine g_iload_n C (gdec dt_X10_refuse 1 rfl) (i := 1) rfl rfl ?_
  refine g_puti C kf_X10_99 rfl rfl (gdec dt_X10_refuse 2 rfl) ?_
  refine g_iconst C (gdec dt_X10_refuse 3 rfl) ic_m1 ?_
  cases hf
  exact g_iret C rfl (gdec dt_X10_refuse 4 rfl)
set_option maxHeartbeats 4000000 in
set_option maxRecDepth 100000 in
theorem c_X10_answerOrRefuse (l : Launch) (D : va_G) (cA ad : Nat → Nat) (hin : gInj ad shX.length) (w : GW) (x1 : Int32) (x2 : Int32) (q : (Int32 × GW)) (hf : F_X10_answerOrRefuse x1 x2 w = some q) : gMet l yX10_answerOrRefuse cX10_answerOrRefuse 3 (some .int) 2 141 D cA ad shX [.ref 0, .int x1, .int x2] w (some (.int q.1)) q.2 := by
  refine g_entry (by decide) hin (Nat.le_of_ble_eq_true rfl) ?_
  intro p e s m args below meth c C
  unfold F_X10_answerOrRefuse at hf
  show gW p l e (gRm 2 141) s m args below meth c D cA ad shX 3 0 0 (gQ below D cA ad shX (some (.int q.1)) q.2 args s) 0 [(0, .ref 0), (1, .int x1), (2, .int x2)] [] w
  refine g_iload_n C (gdec dt_X10_answerOrRefuse 0 rfl) (i := 1) rfl rfl ?_
  refine g_iconst C (gdec dt_X10_answerOrRefuse 1 rfl) ic_m1 ?_
  refine g_icmp_ne C (tgt := 13) (gdec dt_X10_answerOrRefuse 2 rfl) (by decide) (fun hc1 => ?_) (fun hc1 => ?_)
  · have hf := (if_neg hc1).symm.trans hf
    refine g_aload_n C (gdec dt_X10_answerOrRefuse 7 rfl) (i := 0) rfl rfl ?_
    refine g_iload_n C (gdec dt_X10_answerOrRefuse 8 rfl) (i := 1) rfl rfl ?_
    obtain ⟨q2, hq2, hf⟩ := Option.bind_eq_some_iff.mp hf
    refine g_invV [.int x1] [] C (c_X10_answer l D cA _ (gCi C) w x1 q2 hq2) kT_X10_answer kl_X10_114 kim_X10_answer kse_X10_answer rfl rfl (i := 0) rfl rfl ⟨by decide, by decide⟩ gk0 (Nat.le_of_ble_eq_true rfl) (gdec dt_X10_answerOrRefuse 9 rfl) rfl (st2 := [.int q2.1]) rfl ?_
    cases hf
    exact g_iret C rfl (gdec dt_X10_answerOrRefuse 10 rfl)
  · have hf := (if_pos hc1).symm.trans hf
    refine g_aload_n C (gdec dt_X10_answerOrRefuse 3 rfl) (i := 0) rfl rfl ?_
    refine g_iload_n C (gdec dt_X10_answerOrRefuse 4 rfl) (i := 2) rfl rfl ?_
    obtain ⟨q3, hq3, hf⟩ := Option.bind_eq_some_iff.mp hf
    refine g_invV [.int x2] [] C (c_X10_refuse l D cA _ (gCi C) w x2 q3 hq3) kT_X10_refuse kl_X10_110 kim_X10_refuse kse_X10_refuse rfl rfl (i := 0) rfl rfl ⟨by decide, by decide⟩ gk0 (Nat.le_of_ble_eq_true rfl) (gdec dt_X10_answerOrRefuse 5 rfl) rfl (st2 := [.int q3.1]) rfl ?_
    refine g_goto C (tgt := 18) (gdec dt_X10_answerOrRefuse 6 rfl) (by decide) ?_
    cases hf
    exact g_iret C rfl (gdec dt_X10_answerOrRefuse 10 rfl)
set_option maxHeartbeats 4000000 in
set_option maxRecDepth 100000 in
theorem c_X10_grant (l : Launch) (D : va_G) (cA ad : Nat → Nat) (hin : gInj ad shX.length) (w : GW) (q : (Int32 × GW)) (hf : F_X10_grant w = some q) : gMet l yX10_grant cX10_grant 1 (some .boolean) 1 120 D cA ad shX [.ref 0] w (some (.int q.1)) q.2 := by
  refine g_entry (by decide) hin (Nat.le_of_ble_eq_true rfl) ?_
  intro p e s m args below meth c C
  unfold F_X10_grant at hf
  show gW p l e (gRm 1 120) s m args below meth c D cA ad shX 1 0 0 (gQ below D cA ad shX (some (.int q.1)) q.2 args s) 0 [(0, .ref 0)] [] w
  refine g_aload_n C (gdec dt_X10_grant 0 rfl) (i := 0) rfl rfl ?_
  refine g_iconst C (gdec dt_X10_grant 1 rfl) ic_0 ?_
  refine g_puti C kf_X10_99 rfl rfl (gdec dt_X10_grant 2 rfl) ?_
  refine g_iconst C (gdec dt_X10_grant 3 rfl) ic_1 ?_
  cases hf
  exact g_zret C (Or.inr rfl) rfl (gdec dt_X10_grant 4 rfl)
set_option maxHeartbeats 4000000 in
set_option maxRecDepth 100000 in
theorem c_X10_deny (l : Launch) (D : va_G) (cA ad : Nat → Nat) (hin : gInj ad shX.length) (w : GW) (x1 : Int32) (q : (Int32 × GW)) (hf : F_X10_deny x1 w = some q) : gMet l yX10_deny cX10_deny 2 (some .boolean) 1 120 D cA ad shX [.ref 0, .int x1] w (some (.int q.1)) q.2 := by
  refine g_entry (by decide) hin (Nat.le_of_ble_eq_true rfl) ?_
  intro p e s m args below meth c C
  unfold F_X10_deny at hf
  show gW p l e (gRm 1 120) s m args below meth c D cA ad shX 2 0 0 (gQ below D cA ad shX (some (.int q.1)) q.2 args s) 0 [(0, .ref 0), (1, .int x1)] [] w
  refine g_aload_n C (gdec dt_X10_deny 0 rfl) (i := 0) rfl rfl ?_
  refine g_iload_n C (gdec dt_X10_deny 1 rfl) (i := 1) rfl rfl ?_
  refine g_puti C kf_X10_99 rfl rfl (gdec dt_X10_deny 2 rfl) ?_
  refine g_iconst C (gdec dt_X10_deny 3 rfl) ic_0 ?_
  cases hf
  exact g_zret C (Or.inl rfl) rfl (gdec dt_X10_deny 4 rfl)
set_option maxHeartbeats 4000000 in
set_option maxRecDepth 100000 in
theorem L_X10_commonDivisor_44 {p : Program} {l : Launch} {e : Env} {s : State} {m : MethodId} {args : Array Value} {below : List Frame} {meth : Method} {c : Code} {D : va_G} {cA ad : Nat → Nat} {w : GW} {q : Int64} (C : gC p c cX10_commonDivisor meth m s args 11 (some .long) RX10 D cA ad shE) (x4 : Int64) (hf : f_X10_commonDivisor_44 x4 = some q) : gW p l e (gRm 1 120) s m args below meth c D cA ad shE 11 0 0 (gQ below D cA ad shE (some (.long q)) w args s) 44 [(4, .long x4)] [] w := by
  unfold f_X10_commonDivisor_44 at hf
  refine g_lload C (gdec dt_X10_commonDivisor 23 rfl) rfl ?_
  cases hf
  exact g_lret C rfl (gdec dt_X10_commonDivisor 24 rfl)
set_option maxHeartbeats 4000000 in
set_option maxRecDepth 100000 in
theorem Lb_X10_commonDivisor_9 {p : Program} {l : Launch} {e : Env} {s : State} {m : MethodId} {args : Array Value} {below : List Frame} {meth : Method} {c : Code} {D : va_G} {cA ad : Nat → Nat} {w : GW} {q : Int64} (C : gC p c cX10_commonDivisor meth m s args 11 (some .long) RX10 D cA ad shE) {k9 : Int64 → Int64 → Int32 → Option Int64} (hk9 : ∀ (x4 : Int64) (x6 : Int64) (x8 : Int32), k9 x4 x6 x8 = some q → gW p l e (gRm 1 120) s m args below meth c D cA ad shE 11 0 0 (gQ below D cA ad shE (some (.long q)) w args s) 9 [(4, .long x4), (6, .long x6), (8, .int x8)] [] w) (x4 : Int64) (x6 : Int64) (x8 : Int32) (hf : b_X10_commonDivisor_9 k9 x4 x6 x8 = some q) : gW p l e (gRm 1 120) s m args below meth c D cA ad shE 11 0 0 (gQ below D cA ad shE (some (.long q)) w args s) 9 [(4, .long x4), (6, .long x6), (8, .int x8)] [] w := by
  unfold b_X10_commonDivisor_9 at hf
  refine g_iload C (gdec dt_X10_commonDivisor 6 rfl) rfl ?_
  refine g_ldc C kk_X10_125 (gdec dt_X10_commonDivisor 7 rfl) ?_
  refine g_icmp_ge C (tgt := 44) (gdec dt_X10_commonDivisor 8 rfl) (by decide) (fun hc1 => ?_) (fun hc1 => ?_)
  · have hf := (if_pos hc1).symm.trans hf
    refine g_sub [0] (lo2 := [(4, .long x4)]) rfl ?_
    exact L_X10_commonDivisor_44 C x4 hf
  · have hf := (if_neg hc1).symm.trans hf
    refine g_lload C (gdec dt_X10_commonDivisor 9 rfl) rfl ?_
    refine g_lconst C (gdec dt_X10_commonDivisor 10 rfl) lc_0 ?_
    refine g_lcmp C (gdec dt_X10_commonDivisor 11 rfl) ?_
    refine g_if_eq C (tgt := 44) (gdec dt_X10_commonDivisor 12 rfl) (by decide) (fun hc2 => ?_) (fun hc2 => ?_)
    · have hf := (if_pos hc2).symm.trans hf
      refine g_sub [0] (lo2 := [(4, .long x4)]) rfl ?_
      exact L_X10_commonDivisor_44 C x4 hf
    · have hf := (if_neg hc2).symm.trans hf
      refine g_lload C (gdec dt_X10_commonDivisor 13 rfl) rfl ?_
      refine g_lload C (gdec dt_X10_commonDivisor 14 rfl) rfl ?_
      obtain ⟨hz3, hf⟩ := gifn hf
      refine g_lrem C (gdec dt_X10_commonDivisor 15 rfl) hz3 ?_
      refine g_lstore C (gdec dt_X10_commonDivisor 16 rfl) (by decide) (lo2 := [(9, .long (x4 - x4 / x6 * x6)), (4, .long x4), (6, .long x6), (8, .int x8)]) rfl ?_
      refine g_lload C (gdec dt_X10_commonDivisor 17 rfl) rfl ?_
      refine g_lstore C (gdec dt_X10_commonDivisor 18 rfl) (by decide) (lo2 := [(4, .long x6), (9, .long (x4 - x4 / x6 * x6)), (6, .long x6), (8, .int x8)]) rfl ?_
      refine g_lload C (gdec dt_X10_commonDivisor 19 rfl) rfl ?_
      refine g_lstore C (gdec dt_X10_commonDivisor 20 rfl) (by decide) (lo2 := [(6, .long (x4 - x4 / x6 * x6)), (4, .long x6), (9, .long (x4 - x4 / x6 * x6)), (8, .int x8)]) rfl ?_
      refine g_iinc C (gdec dt_X10_commonDivisor 21 rfl) (kk := 3) rfl (v := (x8 + (1 : Int32))) rfl (by decide) (lo2 := [(8, .int (x8 + (1 : Int32))), (6, .long (x4 - x4 / x6 * x6)), (4, .long x6), (9, .long (x4 - x4 / x6 * x6))]) rfl ?_
      refine g_goto C (tgt := 9) (gdec dt_X10_commonDivisor 22 rfl) (by decide) ?_
      refine g_sub [2, 1, 0] (lo2 := [(4, .long x6), (6, .long (x4 - x4 / x6 * x6)), (8, .int (x8 + (1 : Int32)))]) rfl ?_
      exact hk9 x6 (x4 - x4 / x6 * x6) (x8 + (1 : Int32)) hf
theorem L_X10_commonDivisor_9 {p : Program} {l : Launch} {e : Env} {s : State} {m : MethodId} {args : Array Value} {below : List Frame} {meth : Method} {c : Code} {D : va_G} {cA ad : Nat → Nat} {w : GW} {q : Int64} (C : gC p c cX10_commonDivisor meth m s args 11 (some .long) RX10 D cA ad shE) : ∀ (n : Nat) (x4 : Int64) (x6 : Int64) (x8 : Int32), f_X10_commonDivisor_9 n x4 x6 x8 = some q → gW p l e (gRm 1 120) s m args below meth c D cA ad shE 11 0 0 (gQ below D cA ad shE (some (.long q)) w args s) 9 [(4, .long x4), (6, .long x6), (8, .int x8)] [] w := by
  intro n
  induction n with
  | zero => intro _ _ _ hf; cases hf
  | succ n ih => intro x4 x6 x8 hf; exact Lb_X10_commonDivisor_9 C ih x4 x6 x8 hf
set_option maxHeartbeats 4000000 in
set_option maxRecDepth 100000 in
theorem c_X10_commonDivisor (l : Launch) (D : va_G) (cA ad : Nat → Nat) (hin : gInj ad shE.length) (w : GW) (x0 : Int64) (x2 : Int64) (q : Int64) (hf : F_X10_commonDivisor x0 x2 = some q) : gMet l yX10_commonDivisor cX10_commonDivisor 11 (some .long) 1 120 D cA ad shE [.long x0, .long x2] w (some (.long q)) w := by
  refine g_entry (by decide) hin (Nat.le_of_ble_eq_true rfl) ?_
  intro p e s m args below meth c C
  unfold F_X10_commonDivisor at hf
  show gW p l e (gRm 1 120) s m args below meth c D cA ad shE 11 0 0 (gQ below D cA ad shE (some (.long q)) w args s) 0 [(0, .long x0), (2, .long x2)] [] w
  refine g_lload_n C (gdec dt_X10_commonDivisor 0 rfl) (i := 0) rfl rfl ?_
  refine g_lstore C (gdec dt_X10_commonDivisor 1 rfl) (by decide) (lo2 := [(4, .long x0), (0, .long x0), (2, .long x2)]) rfl ?_
  refine g_lload_n C (gdec dt_X10_commonDivisor 2 rfl) (i := 2) rfl rfl ?_
  refine g_lstore C (gdec dt_X10_commonDivisor 3 rfl) (by decide) (lo2 := [(6, .long x2), (4, .long x0), (0, .long x0), (2, .long x2)]) rfl ?_
  refine g_iconst C (gdec dt_X10_commonDivisor 4 rfl) ic_0 ?_
  refine g_istore C (gdec dt_X10_commonDivisor 5 rfl) (by decide) (lo2 := [(8, .int (0 : Int32)), (6, .long x2), (4, .long x0), (0, .long x0), (2, .long x2)]) rfl ?_
  refine g_sub [2, 1, 0] (lo2 := [(4, .long x0), (6, .long x2), (8, .int (0 : Int32))]) rfl ?_
  exact L_X10_commonDivisor_9 C FU x0 x2 (0 : Int32) hf
set_option maxHeartbeats 4000000 in
set_option maxRecDepth 100000 in
theorem L_X10_grantFraction_12 {p : Program} {l : Launch} {e : Env} {s : State} {m : MethodId} {args : Array Value} {below : List Frame} {meth : Method} {c : Code} {D : va_G} {cA ad : Nat → Nat} {q : (Int32 × GW)} (C : gC p c cX10_grantFraction meth m s args 7 (some .boolean) RX10 D cA ad shX) (w : GW) (hf : f_X10_grantFraction_12 w = some q) : gW p l e (gRm 2 150) s m args below meth c D cA ad shX 7 0 0 (gQ below D cA ad shX (some (.int q.1)) q.2 args s) 12 [(0, .ref 0)] [] w := by
  unfold f_X10_grantFraction_12 at hf
  refine g_aload_n C (gdec dt_X10_grantFraction 8 rfl) (i := 0) rfl rfl ?_
  refine g_lconst C (gdec dt_X10_grantFraction 9 rfl) lc_0 ?_
  refine g_putl C kf_X10_102 rfl rfl (gdec dt_X10_grantFraction 10 rfl) ?_
  refine g_aload_n C (gdec dt_X10_grantFraction 11 rfl) (i := 0) rfl rfl ?_
  refine g_lconst C (gdec dt_X10_grantFraction 12 rfl) lc_1 ?_
  refine g_putl C kf_X10_106 rfl rfl (gdec dt_X10_grantFraction 13 rfl) ?_
  refine g_aload_n C (gdec dt_X10_grantFraction 14 rfl) (i := 0) rfl rfl ?_
  obtain ⟨q7, hq7, hf⟩ := Option.bind_eq_some_iff.mp hf
  refine g_invV [] [] C (c_X10_grant l D cA _ (gCi C) (gL (gL w 0 16 (0 : Int64)) 0 17 (1 : Int64))  q7 hq7) kT_X10_grant kl_X10_117 kim_X10_grant kse_X10_grant rfl rfl (i := 0) rfl rfl ⟨by decide, by decide⟩ gk0 (Nat.le_of_ble_eq_true rfl) (gdec dt_X10_grantFraction 15 rfl) rfl (st2 := [.int q7.1]) rfl ?_
  obtain ⟨hb8, hf⟩ := gif hf
  cases hf
  exact g_zret C hb8 rfl (gdec dt_X10_grantFraction 16 rfl)
set_option maxHeartbeats 4000000 in
set_option maxRecDepth 100000 in
theorem L_X10_grantFraction_57 {p : Program} {l : Launch} {e : Env} {s : State} {m : MethodId} {args : Array Value} {below : List Frame} {meth : Method} {c : Code} {D : va_G} {cA ad : Nat → Nat} {q : (Int32 × GW)} (C : gC p c cX10_grantFraction meth m s args 7 (some .boolean) RX10 D cA ad shX) (w : GW) (hf : f_X10_grantFraction_57 w = some q) : gW p l e (gRm 2 150) s m args below meth c D cA ad shX 7 0 0 (gQ below D cA ad shX (some (.int q.1)) q.2 args s) 57 [(0, .ref 0)] [] w := by
  unfold f_X10_grantFraction_57 at hf
  refine g_aload_n C (gdec dt_X10_grantFraction 35 rfl) (i := 0) rfl rfl ?_
  obtain ⟨q9, hq9, hf⟩ := Option.bind_eq_some_iff.mp hf
  refine g_invV [] [] C (c_X10_grant l D cA _ (gCi C) w  q9 hq9) kT_X10_grant kl_X10_117 kim_X10_grant kse_X10_grant rfl rfl (i := 0) rfl rfl ⟨by decide, by decide⟩ gk0 (Nat.le_of_ble_eq_true rfl) (gdec dt_X10_grantFraction 36 rfl) rfl (st2 := [.int q9.1]) rfl ?_
  obtain ⟨hb10, hf⟩ := gif hf
  cases hf
  exact g_zret C hb10 rfl (gdec dt_X10_grantFraction 37 rfl)
set_option maxHeartbeats 4000000 in
set_option maxRecDepth 100000 in
theorem c_X10_grantFraction (l : Launch) (D : va_G) (cA ad : Nat → Nat) (hin : gInj ad shX.length) (w : GW) (x1 : Int64) (x3 : Int64) (q : (Int32 × GW)) (hf : F_X10_grantFraction x1 x3 w = some q) : gMet l yX10_grantFraction cX10_grantFraction 7 (some .boolean) 2 150 D cA ad shX [.ref 0, .long x1, .long x3] w (some (.int q.1)) q.2 := by
  refine g_entry (by decide) hin (Nat.le_of_ble_eq_true rfl) ?_
  intro p e s m args below meth c C
  unfold F_X10_grantFraction at hf
  show gW p l e (gRm 2 150) s m args below meth c D cA ad shX 7 0 0 (gQ below D cA ad shX (some (.int q.1)) q.2 args s) 0 [(0, .ref 0), (1, .long x1), (3, .long x3)] [] w
  refine g_lload_n C (gdec dt_X10_grantFraction 0 rfl) (i := 1) rfl rfl ?_
  refine g_lconst C (gdec dt_X10_grantFraction 1 rfl) lc_0 ?_
  refine g_lcmp C (gdec dt_X10_grantFraction 2 rfl) ?_
  refine g_if_eq C (tgt := 12) (gdec dt_X10_grantFraction 3 rfl) (by decide) (fun hc1 => ?_) (fun hc1 => ?_)
  · have hf := (if_pos hc1).symm.trans hf
    refine g_sub [0] (lo2 := [(0, .ref 0)]) rfl ?_
    exact L_X10_grantFraction_12 C w hf
  · have hf := (if_neg hc1).symm.trans hf
    refine g_lload_n C (gdec dt_X10_grantFraction 4 rfl) (i := 3) rfl rfl ?_
    refine g_lconst C (gdec dt_X10_grantFraction 5 rfl) lc_0 ?_
    refine g_lcmp C (gdec dt_X10_grantFraction 6 rfl) ?_
    refine g_if_gt C (tgt := 27) (gdec dt_X10_grantFraction 7 rfl) (by decide) (fun hc2 => ?_) (fun hc2 => ?_)
    · have hf := (if_pos hc2).symm.trans hf
      refine g_lload_n C (gdec dt_X10_grantFraction 17 rfl) (i := 1) rfl rfl ?_
      refine g_lload_n C (gdec dt_X10_grantFraction 18 rfl) (i := 3) rfl rfl ?_
      obtain ⟨q3, hq3, hf⟩ := Option.bind_eq_some_iff.mp hf
      refine g_invSs e_nil [.long x1, .long x3] [] C (c_X10_commonDivisor l D cA _ (gInj_sub em_e_nil_shX (gCi C)) (gsub w e_nil) x1 x3 q3 hq3) em_e_nil_shX (by decide) rfl kT_X10_commonDivisor kl_X10_121 kst_X10_commonDivisor rfl rfl ⟨by decide, by decide⟩ gk0 (Nat.le_of_ble_eq_true rfl) (gdec dt_X10_grantFraction 19 rfl) rfl (st2 := [.long q3]) (w2 := w) rfl (gput_sub _ _) ?_
      refine g_lstore C (gdec dt_X10_grantFraction 20 rfl) (by decide) (lo2 := [(5, .long q3), (0, .ref 0), (1, .long x1), (3, .long x3)]) rfl ?_
      refine g_lload C (gdec dt_X10_grantFraction 21 rfl) rfl ?_
      refine g_lconst C (gdec dt_X10_grantFraction 22 rfl) lc_0 ?_
      refine g_lcmp C (gdec dt_X10_grantFraction 23 rfl) ?_
      refine g_if_le C (tgt := 57) (gdec dt_X10_grantFraction 24 rfl) (by decide) (fun hc4 => ?_) (fun hc4 => ?_)
      · have hf := (if_pos hc4).symm.trans hf
        refine g_sub [1] (lo2 := [(0, .ref 0)]) rfl ?_
        exact L_X10_grantFraction_57 C w hf
      · have hf := (if_neg hc4).symm.trans hf
        refine g_aload_n C (gdec dt_X10_grantFraction 25 rfl) (i := 0) rfl rfl ?_
        refine g_lload_n C (gdec dt_X10_grantFraction 26 rfl) (i := 1) rfl rfl ?_
        refine g_lload C (gdec dt_X10_grantFraction 27 rfl) rfl ?_
        obtain ⟨hz5, hf⟩ := gifn hf
        refine g_ldiv C (gdec dt_X10_grantFraction 28 rfl) hz5 ?_
        refine g_putl C kf_X10_102 rfl rfl (gdec dt_X10_grantFraction 29 rfl) ?_
        refine g_aload_n C (gdec dt_X10_grantFraction 30 rfl) (i := 0) rfl rfl ?_
        refine g_lload_n C (gdec dt_X10_grantFraction 31 rfl) (i := 3) rfl rfl ?_
        refine g_lload C (gdec dt_X10_grantFraction 32 rfl) rfl ?_
        obtain ⟨hz6, hf⟩ := gifn hf
        refine g_ldiv C (gdec dt_X10_grantFraction 33 rfl) hz6 ?_
        refine g_putl C kf_X10_106 rfl rfl (gdec dt_X10_grantFraction 34 rfl) ?_
        refine g_sub [1] (lo2 := [(0, .ref 0)]) rfl ?_
        exact L_X10_grantFraction_57 C (gL (gL w 0 16 (x1 / q3)) 0 17 (x3 / q3)) hf
    · have hf := (if_neg hc2).symm.trans hf
      refine g_sub [0] (lo2 := [(0, .ref 0)]) rfl ?_
      exact L_X10_grantFraction_12 C w hf
set_option maxHeartbeats 4000000 in
set_option maxRecDepth 100000 in
theorem c_X10_between (l : Launch) (D : va_G) (cA ad : Nat → Nat) (hin : gInj ad shE.length) (w : GW) (x0 : Int32) (x1 : Int32) (x2 : Int32) (q : Int32) (hf : F_X10_between x0 x1 x2 = some q) : gMet l yX10_between cX10_between 3 (some .boolean) 1 120 D cA ad shE [.int x0, .int x1, .int x2] w (some (.int q)) w := by
  refine g_entry (by decide) hin (Nat.le_of_ble_eq_true rfl) ?_
  intro p e s m args below meth c C
  unfold F_X10_between at hf
  show gW p l e (gRm 1 120) s m args below meth c D cA ad shE 3 0 0 (gQ below D cA ad shE (some (.int q)) w args s) 0 [(0, .int x0), (1, .int x1), (2, .int x2)] [] w
  refine g_iload_n C (gdec dt_X10_between 0 rfl) (i := 0) rfl rfl ?_
  refine g_iload_n C (gdec dt_X10_between 1 rfl) (i := 1) rfl rfl ?_
  refine g_icmp_lt C (tgt := 14) (gdec dt_X10_between 2 rfl) (by decide) (fun hc1 => ?_) (fun hc1 => ?_)
  · have hf := (if_pos hc1).symm.trans hf
    refine g_iconst C (gdec dt_X10_between 8 rfl) ic_0 ?_
    cases hf
    exact g_zret C (Or.inl rfl) rfl (gdec dt_X10_between 9 rfl)
  · have hf := (if_neg hc1).symm.trans hf
    refine g_iload_n C (gdec dt_X10_between 3 rfl) (i := 0) rfl rfl ?_
    refine g_iload_n C (gdec dt_X10_between 4 rfl) (i := 2) rfl rfl ?_
    refine g_icmp_gt C (tgt := 14) (gdec dt_X10_between 5 rfl) (by decide) (fun hc2 => ?_) (fun hc2 => ?_)
    · have hf := (if_pos hc2).symm.trans hf
      refine g_iconst C (gdec dt_X10_between 8 rfl) ic_0 ?_
      cases hf
      exact g_zret C (Or.inl rfl) rfl (gdec dt_X10_between 9 rfl)
    · have hf := (if_neg hc2).symm.trans hf
      refine g_iconst C (gdec dt_X10_between 6 rfl) ic_1 ?_
      refine g_goto C (tgt := 15) (gdec dt_X10_between 7 rfl) (by decide) ?_
      cases hf
      exact g_zret C (Or.inr rfl) rfl (gdec dt_X10_between 9 rfl)
set_option maxHeartbeats 4000000 in
set_option maxRecDepth 100000 in
theorem c_X10_isYears (l : Launch) (D : va_G) (cA ad : Nat → Nat) (hin : gInj ad shX.length) (w : GW) (x1 : Int32) (q : Int32) (hf : F_X10_isYears w x1 = some q) : gMet l yX10_isYears cX10_isYears 2 (some .boolean) 2 142 D cA ad shX [.ref 0, .int x1] w (some (.int q)) w := by
  refine g_entry (by decide) hin (Nat.le_of_ble_eq_true rfl) ?_
  intro p e s m args below meth c C
  unfold F_X10_isYears at hf
  show gW p l e (gRm 2 142) s m args below meth c D cA ad shX 2 0 0 (gQ below D cA ad shX (some (.int q)) w args s) 0 [(0, .ref 0), (1, .int x1)] [] w
  refine g_iload_n C (gdec dt_X10_isYears 0 rfl) (i := 1) rfl rfl ?_
  refine g_iconst C (gdec dt_X10_isYears 1 rfl) ic_0 ?_
  refine g_bipush C (gdec dt_X10_isYears 2 rfl) bc_40 ?_
  obtain ⟨q1, hq1, hf⟩ := Option.bind_eq_some_iff.mp hf
  refine g_invSs e_nil [.int x1, .int (0 : Int32), .int (40 : Int32)] [] C (c_X10_between l D cA _ (gInj_sub em_e_nil_shX (gCi C)) (gsub w e_nil) x1 (0 : Int32) (40 : Int32) q1 hq1) em_e_nil_shX (by decide) rfl kT_X10_between kl_X10_126 kst_X10_between rfl rfl ⟨by decide, by decide⟩ gk0 (Nat.le_of_ble_eq_true rfl) (gdec dt_X10_isYears 3 rfl) rfl (st2 := [.int q1]) (w2 := w) rfl (gput_sub _ _) ?_
  obtain ⟨hb2, hf⟩ := gif hf
  cases hf
  exact g_zret C hb2 rfl (gdec dt_X10_isYears 4 rfl)
set_option maxHeartbeats 4000000 in
set_option maxRecDepth 100000 in
theorem L_X10_tray_30 {p : Program} {l : Launch} {e : Env} {s : State} {m : MethodId} {args : Array Value} {below : List Frame} {meth : Method} {c : Code} {D : va_G} {cA ad : Nat → Nat} {q : (Int32 × GW)} (C : gC p c cX10_tray meth m s args 4 (some .boolean) RX10 D cA ad shX) (w : GW) (hf : f_X10_tray_30 w = some q) : gW p l e (gRm 3 165) s m args below meth c D cA ad shX 4 0 0 (gQ below D cA ad shX (some (.int q.1)) q.2 args s) 30 [(0, .ref 0)] [] w := by
  unfold f_X10_tray_30 at hf
  refine g_aload_n C (gdec dt_X10_tray 15 rfl) (i := 0) rfl rfl ?_
  refine g_iconst C (gdec dt_X10_tray 16 rfl) ic_1 ?_
  obtain ⟨q10, hq10, hf⟩ := Option.bind_eq_some_iff.mp hf
  refine g_invV [.int (1 : Int32)] [] C (c_X10_deny l D cA _ (gCi C) w (1 : Int32) q10 hq10) kT_X10_deny kl_X10_134 kim_X10_deny kse_X10_deny rfl rfl (i := 0) rfl rfl ⟨by decide, by decide⟩ gk0 (Nat.le_of_ble_eq_true rfl) (gdec dt_X10_tray 17 rfl) rfl (st2 := [.int q10.1]) rfl ?_
  obtain ⟨hb11, hf⟩ := gif hf
  cases hf
  exact g_zret C hb11 rfl (gdec dt_X10_tray 18 rfl)
set_option maxHeartbeats 4000000 in
set_option maxRecDepth 100000 in
theorem c_X10_tray (l : Launch) (D : va_G) (cA ad : Nat → Nat) (hin : gInj ad shX.length) (w : GW) (x1 : Int32) (x2 : Int32) (x3 : Int32) (q : (Int32 × GW)) (hf : F_X10_tray x1 x2 x3 w = some q) : gMet l yX10_tray cX10_tray 4 (some .boolean) 3 165 D cA ad shX [.ref 0, .int x1, .int x2, .int x3] w (some (.int q.1)) q.2 := by
  refine g_entry (by decide) hin (Nat.le_of_ble_eq_true rfl) ?_
  intro p e s m args below meth c C
  unfold F_X10_tray at hf
  show gW p l e (gRm 3 165) s m args below meth c D cA ad shX 4 0 0 (gQ below D cA ad shX (some (.int q.1)) q.2 args s) 0 [(0, .ref 0), (1, .int x1), (2, .int x2), (3, .int x3)] [] w
  refine g_aload_n C (gdec dt_X10_tray 0 rfl) (i := 0) rfl rfl ?_
  refine g_getr C (j := 1) kf_X10_12 rfl rfl (gdec dt_X10_tray 1 rfl) ?_
  refine g_iload_n C (gdec dt_X10_tray 2 rfl) (i := 1) rfl rfl ?_
  obtain ⟨q1, hq1, hf⟩ := Option.bind_eq_some_iff.mp hf
  refine g_invVs e_shX_shTr_1 [.int x1] [] C (c_X9_isTray l D cA _ (gInj_sub em_e_shX_shTr_1 (gCi C)) (gsub w e_shX_shTr_1) x1 q1 hq1) em_e_shX_shTr_1 (by decide) rfl kT_X9_isTray kl_X10_130 kim_X9_isTray kse_X9_isTray rfl rfl (i := 1) rfl rfl ⟨by decide, by decide⟩ gk0 (Nat.le_of_ble_eq_true rfl) (gdec dt_X10_tray 3 rfl) rfl (st2 := [.int q1]) (w2 := w) rfl (gput_sub _ _) ?_
  refine g_if_eq C (tgt := 30) (gdec dt_X10_tray 4 rfl) (by decide) (fun hc2 => ?_) (fun hc2 => ?_)
  · have hf := (if_pos hc2).symm.trans hf
    refine g_sub [0] (lo2 := [(0, .ref 0)]) rfl ?_
    exact L_X10_tray_30 C w hf
  · have hf := (if_neg hc2).symm.trans hf
    refine g_iload_n C (gdec dt_X10_tray 5 rfl) (i := 2) rfl rfl ?_
    refine g_iconst C (gdec dt_X10_tray 6 rfl) ic_0 ?_
    refine g_iconst C (gdec dt_X10_tray 7 rfl) ic_3 ?_
    obtain ⟨q3, hq3, hf⟩ := Option.bind_eq_some_iff.mp hf
    refine g_invSs e_nil [.int x2, .int (0 : Int32), .int (3 : Int32)] [] C (c_X10_between l D cA _ (gInj_sub em_e_nil_shX (gCi C)) (gsub w e_nil) x2 (0 : Int32) (3 : Int32) q3 hq3) em_e_nil_shX (by decide) rfl kT_X10_between kl_X10_126 kst_X10_between rfl rfl ⟨by decide, by decide⟩ gk0 (Nat.le_of_ble_eq_true rfl) (gdec dt_X10_tray 8 rfl) rfl (st2 := [.int q3]) (w2 := w) rfl (gput_sub _ _) ?_
    refine g_if_eq C (tgt := 30) (gdec dt_X10_tray 9 rfl) (by decide) (fun hc4 => ?_) (fun hc4 => ?_)
    · have hf := (if_pos hc4).symm.trans hf
      refine g_sub [0] (lo2 := [(0, .ref 0)]) rfl ?_
      exact L_X10_tray_30 C w hf
    · have hf := (if_neg hc4).symm.trans hf
      refine g_iload_n C (gdec dt_X10_tray 10 rfl) (i := 3) rfl rfl ?_
      refine g_iconst C (gdec dt_X10_tray 11 rfl) ic_0 ?_
      refine g_bipush C (gdec dt_X10_tray 12 rfl) bc_60 ?_
      obtain ⟨q5, hq5, hf⟩ := Option.bind_eq_some_iff.mp hf
      refine g_invSs e_nil [.int x3, .int (0 : Int32), .int (60 : Int32)] [] C (c_X10_between l D cA _ (gInj_sub em_e_nil_shX (gCi C)) (gsub w e_nil) x3 (0 : Int32) (60 : Int32) q5 hq5) em_e_nil_shX (by decide) rfl kT_X10_between kl_X10_126 kst_X10_between rfl rfl ⟨by decide, by decide⟩ gk0 (Nat.le_of_ble_eq_true rfl) (gdec dt_X10_tray 13 rfl) rfl (st2 := [.int q5]) (w2 := w) rfl (gput_sub _ _) ?_
      refine g_if_ne C (tgt := 36) (gdec dt_X10_tray 14 rfl) (by decide) (fun hc6 => ?_) (fun hc6 => ?_)
      · have hf := (if_neg hc6).symm.trans hf
        refine g_aload_n C (gdec dt_X10_tray 19 rfl) (i := 0) rfl rfl ?_
        refine g_getr C (j := 1) kf_X10_12 rfl rfl (gdec dt_X10_tray 20 rfl) ?_
        refine g_iload_n C (gdec dt_X10_tray 21 rfl) (i := 1) rfl rfl ?_
        refine g_iload_n C (gdec dt_X10_tray 22 rfl) (i := 2) rfl rfl ?_
        refine g_iload_n C (gdec dt_X10_tray 23 rfl) (i := 3) rfl rfl ?_
        obtain ⟨q7, hq7, hf⟩ := Option.bind_eq_some_iff.mp hf
        refine g_invVs e_shX_shTr_1 [.int x1, .int x2, .int x3] [] C (c_X9_lay l D cA _ (gInj_sub em_e_shX_shTr_1 (gCi C)) (gsub w e_shX_shTr_1) x1 x2 x3 q7 hq7) em_e_shX_shTr_1 (by decide) rfl kT_X9_lay kl_X10_137 kim_X9_lay kse_X9_lay rfl rfl (i := 1) rfl rfl ⟨by decide, by decide⟩ gk0 (Nat.le_of_ble_eq_true rfl) (gdec dt_X10_tray 24 rfl) rfl (st2 := []) (w2 := (gput w e_shX_shTr_1 q7)) rfl rfl ?_
        refine g_aload_n C (gdec dt_X10_tray 25 rfl) (i := 0) rfl rfl ?_
        obtain ⟨q8, hq8, hf⟩ := Option.bind_eq_some_iff.mp hf
        refine g_invV [] [] C (c_X10_grant l D cA _ (gCi C) (gput w e_shX_shTr_1 q7)  q8 hq8) kT_X10_grant kl_X10_117 kim_X10_grant kse_X10_grant rfl rfl (i := 0) rfl rfl ⟨by decide, by decide⟩ gk0 (Nat.le_of_ble_eq_true rfl) (gdec dt_X10_tray 26 rfl) rfl (st2 := [.int q8.1]) rfl ?_
        obtain ⟨hb9, hf⟩ := gif hf
        cases hf
        exact g_zret C hb9 rfl (gdec dt_X10_tray 27 rfl)
      · have hf := (if_pos hc6).symm.trans hf
        refine g_sub [0] (lo2 := [(0, .ref 0)]) rfl ?_
        exact L_X10_tray_30 C w hf
set_option maxHeartbeats 4000000 in
set_option maxRecDepth 100000 in
theorem c_X10_write (l : Launch) (D : va_G) (cA ad : Nat → Nat) (hin : gInj ad shX.length) (w : GW) (x1 : Int32) (x2 : Int32) (x3 : Int64) (q : (Int32 × GW)) (hf : F_X10_write x1 x2 x3 w = some q) : gMet l yX10_write cX10_write 6 (some .boolean) 5 209 D cA ad shX [.ref 0, .int x1, .int x2, .long x3] w (some (.int q.1)) q.2 := by
  refine g_entry (by decide) hin (Nat.le_of_ble_eq_true rfl) ?_
  intro p e s m args below meth c C
  unfold F_X10_write at hf
  show gW p l e (gRm 5 209) s m args below meth c D cA ad shX 6 0 0 (gQ below D cA ad shX (some (.int q.1)) q.2 args s) 0 [(0, .ref 0), (1, .int x1), (2, .int x2), (3, .long x3)] [] w
  refine g_aload_n C (gdec dt_X10_write 0 rfl) (i := 0) rfl rfl ?_
  refine g_getr C (j := 1) kf_X10_12 rfl rfl (gdec dt_X10_write 1 rfl) ?_
  refine g_iload_n C (gdec dt_X10_write 2 rfl) (i := 1) rfl rfl ?_
  refine g_iload_n C (gdec dt_X10_write 3 rfl) (i := 2) rfl rfl ?_
  obtain ⟨q1, hq1, hf⟩ := Option.bind_eq_some_iff.mp hf
  refine g_invVs e_shX_shTr_1 [.int x1, .int x2] [] C (c_X9_whyNot l D cA _ (gInj_sub em_e_shX_shTr_1 (gCi C)) (gsub w e_shX_shTr_1) x1 x2 q1 hq1) em_e_shX_shTr_1 (by decide) rfl kT_X9_whyNot kl_X10_141 kim_X9_whyNot kse_X9_whyNot rfl rfl (i := 1) rfl rfl ⟨by decide, by decide⟩ gk0 (Nat.le_of_ble_eq_true rfl) (gdec dt_X10_write 4 rfl) rfl (st2 := [.int q1]) (w2 := w) rfl (gput_sub _ _) ?_
  refine g_istore C (gdec dt_X10_write 5 rfl) (by decide) (lo2 := [(5, .int q1), (0, .ref 0), (1, .int x1), (2, .int x2), (3, .long x3)]) rfl ?_
  refine g_iload C (gdec dt_X10_write 6 rfl) rfl ?_
  refine g_if_eq C (tgt := 23) (gdec dt_X10_write 7 rfl) (by decide) (fun hc2 => ?_) (fun hc2 => ?_)
  · have hf := (if_pos hc2).symm.trans hf
    refine g_aload_n C (gdec dt_X10_write 12 rfl) (i := 0) rfl rfl ?_
    refine g_getr C (j := 1) kf_X10_12 rfl rfl (gdec dt_X10_write 13 rfl) ?_
    refine g_iload_n C (gdec dt_X10_write 14 rfl) (i := 1) rfl rfl ?_
    refine g_iload_n C (gdec dt_X10_write 15 rfl) (i := 2) rfl rfl ?_
    refine g_lload_n C (gdec dt_X10_write 16 rfl) (i := 3) rfl rfl ?_
    obtain ⟨q3, hq3, hf⟩ := Option.bind_eq_some_iff.mp hf
    refine g_invVs e_shX_shTr_1 [.int x1, .int x2, .long x3] [] C (c_X9_put l D cA _ (gInj_sub em_e_shX_shTr_1 (gCi C)) (gsub w e_shX_shTr_1) x1 x2 x3 q3 hq3) em_e_shX_shTr_1 (by decide) rfl kT_X9_put kl_X10_145 kim_X9_put kse_X9_put rfl rfl (i := 1) rfl rfl ⟨by decide, by decide⟩ gk0 (Nat.le_of_ble_eq_true rfl) (gdec dt_X10_write 17 rfl) rfl (st2 := []) (w2 := (gput w e_shX_shTr_1 q3)) rfl rfl ?_
    refine g_aload_n C (gdec dt_X10_write 18 rfl) (i := 0) rfl rfl ?_
    obtain ⟨q4, hq4, hf⟩ := Option.bind_eq_some_iff.mp hf
    refine g_invV [] [] C (c_X10_grant l D cA _ (gCi C) (gput w e_shX_shTr_1 q3)  q4 hq4) kT_X10_grant kl_X10_117 kim_X10_grant kse_X10_grant rfl rfl (i := 0) rfl rfl ⟨by decide, by decide⟩ gk0 (Nat.le_of_ble_eq_true rfl) (gdec dt_X10_write 19 rfl) rfl (st2 := [.int q4.1]) rfl ?_
    obtain ⟨hb5, hf⟩ := gif hf
    cases hf
    exact g_zret C hb5 rfl (gdec dt_X10_write 20 rfl)
  · have hf := (if_neg hc2).symm.trans hf
    refine g_aload_n C (gdec dt_X10_write 8 rfl) (i := 0) rfl rfl ?_
    refine g_iload C (gdec dt_X10_write 9 rfl) rfl ?_
    obtain ⟨q6, hq6, hf⟩ := Option.bind_eq_some_iff.mp hf
    refine g_invV [.int q1] [] C (c_X10_deny l D cA _ (gCi C) w q1 q6 hq6) kT_X10_deny kl_X10_134 kim_X10_deny kse_X10_deny rfl rfl (i := 0) rfl rfl ⟨by decide, by decide⟩ gk0 (Nat.le_of_ble_eq_true rfl) (gdec dt_X10_write 10 rfl) rfl (st2 := [.int q6.1]) rfl ?_
    obtain ⟨hb7, hf⟩ := gif hf
    cases hf
    exact g_zret C hb7 rfl (gdec dt_X10_write 11 rfl)
set_option maxHeartbeats 4000000 in
set_option maxRecDepth 100000 in
theorem c_X10_read (l : Launch) (D : va_G) (cA ad : Nat → Nat) (hin : gInj ad shX.length) (w : GW) (x1 : Int32) (x2 : Int32) (q : (Int64 × GW)) (hf : F_X10_read x1 x2 w = some q) : gMet l yX10_read cX10_read 4 (some .long) 5 207 D cA ad shX [.ref 0, .int x1, .int x2] w (some (.long q.1)) q.2 := by
  refine g_entry (by decide) hin (Nat.le_of_ble_eq_true rfl) ?_
  intro p e s m args below meth c C
  unfold F_X10_read at hf
  show gW p l e (gRm 5 207) s m args below meth c D cA ad shX 4 0 0 (gQ below D cA ad shX (some (.long q.1)) q.2 args s) 0 [(0, .ref 0), (1, .int x1), (2, .int x2)] [] w
  refine g_aload_n C (gdec dt_X10_read 0 rfl) (i := 0) rfl rfl ?_
  refine g_getr C (j := 1) kf_X10_12 rfl rfl (gdec dt_X10_read 1 rfl) ?_
  refine g_iload_n C (gdec dt_X10_read 2 rfl) (i := 1) rfl rfl ?_
  refine g_iload_n C (gdec dt_X10_read 3 rfl) (i := 2) rfl rfl ?_
  obtain ⟨q1, hq1, hf⟩ := Option.bind_eq_some_iff.mp hf
  refine g_invVs e_shX_shTr_1 [.int x1, .int x2] [] C (c_X9_whyNot l D cA _ (gInj_sub em_e_shX_shTr_1 (gCi C)) (gsub w e_shX_shTr_1) x1 x2 q1 hq1) em_e_shX_shTr_1 (by decide) rfl kT_X9_whyNot kl_X10_141 kim_X9_whyNot kse_X9_whyNot rfl rfl (i := 1) rfl rfl ⟨by decide, by decide⟩ gk0 (Nat.le_of_ble_eq_true rfl) (gdec dt_X10_read 4 rfl) rfl (st2 := [.int q1]) (w2 := w) rfl (gput_sub _ _) ?_
  refine g_istore_n C (gdec dt_X10_read 5 rfl) (i := 3) rfl (by decide) (lo2 := [(3, .int q1), (0, .ref 0), (1, .int x1), (2, .int x2)]) rfl ?_
  refine g_iload_n C (gdec dt_X10_read 6 rfl) (i := 3) rfl rfl ?_
  refine g_if_eq C (tgt := 21) (gdec dt_X10_read 7 rfl) (by decide) (fun hc2 => ?_) (fun hc2 => ?_)
  · have hf := (if_pos hc2).symm.trans hf
    refine g_aload_n C (gdec dt_X10_read 13 rfl) (i := 0) rfl rfl ?_
    refine g_iconst C (gdec dt_X10_read 14 rfl) ic_0 ?_
    refine g_puti C kf_X10_99 rfl rfl (gdec dt_X10_read 15 rfl) ?_
    refine g_aload_n C (gdec dt_X10_read 16 rfl) (i := 0) rfl rfl ?_
    refine g_getr C (j := 1) kf_X10_12 rfl rfl (gdec dt_X10_read 17 rfl) ?_
    refine g_iload_n C (gdec dt_X10_read 18 rfl) (i := 1) rfl rfl ?_
    refine g_iload_n C (gdec dt_X10_read 19 rfl) (i := 2) rfl rfl ?_
    obtain ⟨q3, hq3, hf⟩ := Option.bind_eq_some_iff.mp hf
    refine g_invVs e_shX_shTr_1 [.int x1, .int x2] [] C (c_X9_at l D cA _ (gInj_sub em_e_shX_shTr_1 (gCi C)) (gsub (gI w 0 15 (0 : Int32)) e_shX_shTr_1) x1 x2 q3 hq3) em_e_shX_shTr_1 (by decide) rfl kT_X9_at kl_X10_149 kim_X9_at kse_X9_at rfl rfl (i := 1) rfl rfl ⟨by decide, by decide⟩ gk0 (Nat.le_of_ble_eq_true rfl) (gdec dt_X10_read 20 rfl) rfl (st2 := [.long q3]) (w2 := (gI w 0 15 (0 : Int32))) rfl (gput_sub _ _) ?_
    cases hf
    exact g_lret C rfl (gdec dt_X10_read 21 rfl)
  · have hf := (if_neg hc2).symm.trans hf
    refine g_aload_n C (gdec dt_X10_read 8 rfl) (i := 0) rfl rfl ?_
    refine g_iload_n C (gdec dt_X10_read 9 rfl) (i := 3) rfl rfl ?_
    obtain ⟨q4, hq4, hf⟩ := Option.bind_eq_some_iff.mp hf
    refine g_invV [.int q1] [] C (c_X10_refuse l D cA _ (gCi C) w q1 q4 hq4) kT_X10_refuse kl_X10_110 kim_X10_refuse kse_X10_refuse rfl rfl (i := 0) rfl rfl ⟨by decide, by decide⟩ gk0 (Nat.le_of_ble_eq_true rfl) (gdec dt_X10_read 10 rfl) rfl (st2 := [.int q4.1]) rfl ?_
    refine g_i2l C (gdec dt_X10_read 11 rfl) ?_
    cases hf
    exact g_lret C rfl (gdec dt_X10_read 12 rfl)
set_option maxHeartbeats 4000000 in
set_option maxRecDepth 100000 in
theorem L_X10_pour_36 {p : Program} {l : Launch} {e : Env} {s : State} {m : MethodId} {args : Array Value} {below : List Frame} {meth : Method} {c : Code} {D : va_G} {cA ad : Nat → Nat} {q : (Int32 × GW)} (C : gC p c cX10_pour meth m s args 6 (some .boolean) RX10 D cA ad shX) (w : GW) (hf : f_X10_pour_36 w = some q) : gW p l e (gRm 5 210) s m args below meth c D cA ad shX 6 0 0 (gQ below D cA ad shX (some (.int q.1)) q.2 args s) 36 [(0, .ref 0)] [] w := by
  unfold f_X10_pour_36 at hf
  refine g_aload_n C (gdec dt_X10_pour 16 rfl) (i := 0) rfl rfl ?_
  refine g_iconst C (gdec dt_X10_pour 17 rfl) ic_1 ?_
  obtain ⟨q23, hq23, hf⟩ := Option.bind_eq_some_iff.mp hf
  refine g_invV [.int (1 : Int32)] [] C (c_X10_deny l D cA _ (gCi C) w (1 : Int32) q23 hq23) kT_X10_deny kl_X10_134 kim_X10_deny kse_X10_deny rfl rfl (i := 0) rfl rfl ⟨by decide, by decide⟩ gk0 (Nat.le_of_ble_eq_true rfl) (gdec dt_X10_pour 18 rfl) rfl (st2 := [.int q23.1]) rfl ?_
  obtain ⟨hb24, hf⟩ := gif hf
  cases hf
  exact g_zret C hb24 rfl (gdec dt_X10_pour 19 rfl)
set_option maxHeartbeats 4000000 in
set_option maxRecDepth 100000 in
theorem L_X10_pour_64 {p : Program} {l : Launch} {e : Env} {s : State} {m : MethodId} {args : Array Value} {below : List Frame} {meth : Method} {c : Code} {D : va_G} {cA ad : Nat → Nat} {q : (Int32 × GW)} (C : gC p c cX10_pour meth m s args 6 (some .boolean) RX10 D cA ad shX) (w : GW) (hf : f_X10_pour_64 w = some q) : gW p l e (gRm 5 210) s m args below meth c D cA ad shX 6 0 0 (gQ below D cA ad shX (some (.int q.1)) q.2 args s) 64 [(0, .ref 0)] [] w := by
  unfold f_X10_pour_64 at hf
  refine g_aload_n C (gdec dt_X10_pour 30 rfl) (i := 0) rfl rfl ?_
  refine g_iconst C (gdec dt_X10_pour 31 rfl) ic_2 ?_
  obtain ⟨q25, hq25, hf⟩ := Option.bind_eq_some_iff.mp hf
  refine g_invV [.int (2 : Int32)] [] C (c_X10_deny l D cA _ (gCi C) w (2 : Int32) q25 hq25) kT_X10_deny kl_X10_134 kim_X10_deny kse_X10_deny rfl rfl (i := 0) rfl rfl ⟨by decide, by decide⟩ gk0 (Nat.le_of_ble_eq_true rfl) (gdec dt_X10_pour 32 rfl) rfl (st2 := [.int q25.1]) rfl ?_
  obtain ⟨hb26, hf⟩ := gif hf
  cases hf
  exact g_zret C hb26 rfl (gdec dt_X10_pour 33 rfl)
set_option maxHeartbeats 4000000 in
set_option maxRecDepth 100000 in
theorem L_X10_pour_118 {p : Program} {l : Launch} {e : Env} {s : State} {m : MethodId} {args : Array Value} {below : List Frame} {meth : Method} {c : Code} {D : va_G} {cA ad : Nat → Nat} {q : (Int32 × GW)} (C : gC p c cX10_pour meth m s args 6 (some .boolean) RX10 D cA ad shX) (w : GW) (hf : f_X10_pour_118 w = some q) : gW p l e (gRm 5 210) s m args below meth c D cA ad shX 6 0 0 (gQ below D cA ad shX (some (.int q.1)) q.2 args s) 118 [(0, .ref 0)] [] w := by
  unfold f_X10_pour_118 at hf
  refine g_aload_n C (gdec dt_X10_pour 58 rfl) (i := 0) rfl rfl ?_
  refine g_iconst C (gdec dt_X10_pour 59 rfl) ic_3 ?_
  obtain ⟨q27, hq27, hf⟩ := Option.bind_eq_some_iff.mp hf
  refine g_invV [.int (3 : Int32)] [] C (c_X10_deny l D cA _ (gCi C) w (3 : Int32) q27 hq27) kT_X10_deny kl_X10_134 kim_X10_deny kse_X10_deny rfl rfl (i := 0) rfl rfl ⟨by decide, by decide⟩ gk0 (Nat.le_of_ble_eq_true rfl) (gdec dt_X10_pour 60 rfl) rfl (st2 := [.int q27.1]) rfl ?_
  obtain ⟨hb28, hf⟩ := gif hf
  cases hf
  exact g_zret C hb28 rfl (gdec dt_X10_pour 61 rfl)
set_option maxHeartbeats 4000000 in
set_option maxRecDepth 100000 in
theorem c_X10_pour (l : Launch) (D : va_G) (cA ad : Nat → Nat) (hin : gInj ad shX.length) (w : GW) (x1 : Int32) (x2 : Int32) (x3 : Int32) (x4 : Int32) (x5 : Int32) (q : (Int32 × GW)) (hf : F_X10_pour x1 x2 x3 x4 x5 w = some q) : gMet l yX10_pour cX10_pour 6 (some .boolean) 5 210 D cA ad shX [.ref 0, .int x1, .int x2, .int x3, .int x4, .int x5] w (some (.int q.1)) q.2 := by
  refine g_entry (by decide) hin (Nat.le_of_ble_eq_true rfl) ?_
  intro p e s m args below meth c C
  unfold F_X10_pour at hf
  show gW p l e (gRm 5 210) s m args below meth c D cA ad shX 6 0 0 (gQ below D cA ad shX (some (.int q.1)) q.2 args s) 0 [(0, .ref 0), (1, .int x1), (2, .int x2), (3, .int x3), (4, .int x4), (5, .int x5)] [] w
  refine g_aload_n C (gdec dt_X10_pour 0 rfl) (i := 0) rfl rfl ?_
  refine g_getr C (j := 1) kf_X10_12 rfl rfl (gdec dt_X10_pour 1 rfl) ?_
  refine g_iload_n C (gdec dt_X10_pour 2 rfl) (i := 1) rfl rfl ?_
  obtain ⟨q1, hq1, hf⟩ := Option.bind_eq_some_iff.mp hf
  refine g_invVs e_shX_shTr_1 [.int x1] [] C (c_X9_isTray l D cA _ (gInj_sub em_e_shX_shTr_1 (gCi C)) (gsub w e_shX_shTr_1) x1 q1 hq1) em_e_shX_shTr_1 (by decide) rfl kT_X9_isTray kl_X10_130 kim_X9_isTray kse_X9_isTray rfl rfl (i := 1) rfl rfl ⟨by decide, by decide⟩ gk0 (Nat.le_of_ble_eq_true rfl) (gdec dt_X10_pour 3 rfl) rfl (st2 := [.int q1]) (w2 := w) rfl (gput_sub _ _) ?_
  refine g_if_eq C (tgt := 36) (gdec dt_X10_pour 4 rfl) (by decide) (fun hc2 => ?_) (fun hc2 => ?_)
  · have hf := (if_pos hc2).symm.trans hf
    refine g_sub [0] (lo2 := [(0, .ref 0)]) rfl ?_
    exact L_X10_pour_36 C w hf
  · have hf := (if_neg hc2).symm.trans hf
    refine g_aload_n C (gdec dt_X10_pour 5 rfl) (i := 0) rfl rfl ?_
    refine g_getr C (j := 1) kf_X10_12 rfl rfl (gdec dt_X10_pour 6 rfl) ?_
    refine g_iload_n C (gdec dt_X10_pour 7 rfl) (i := 3) rfl rfl ?_
    obtain ⟨q3, hq3, hf⟩ := Option.bind_eq_some_iff.mp hf
    refine g_invVs e_shX_shTr_1 [.int x3] [] C (c_X9_isTray l D cA _ (gInj_sub em_e_shX_shTr_1 (gCi C)) (gsub w e_shX_shTr_1) x3 q3 hq3) em_e_shX_shTr_1 (by decide) rfl kT_X9_isTray kl_X10_130 kim_X9_isTray kse_X9_isTray rfl rfl (i := 1) rfl rfl ⟨by decide, by decide⟩ gk0 (Nat.le_of_ble_eq_true rfl) (gdec dt_X10_pour 8 rfl) rfl (st2 := [.int q3]) (w2 := w) rfl (gput_sub _ _) ?_
    refine g_if_eq C (tgt := 36) (gdec dt_X10_pour 9 rfl) (by decide) (fun hc4 => ?_) (fun hc4 => ?_)
    · have hf := (if_pos hc4).symm.trans hf
      refine g_sub [0] (lo2 := [(0, .ref 0)]) rfl ?_
      exact L_X10_pour_36 C w hf
    · have hf := (if_neg hc4).symm.trans hf
      refine g_iload_n C (gdec dt_X10_pour 10 rfl) (i := 2) rfl rfl ?_
      refine g_if_lt C (tgt := 36) (gdec dt_X10_pour 11 rfl) (by decide) (fun hc5 => ?_) (fun hc5 => ?_)
      · have hf := (if_pos hc5).symm.trans hf
        refine g_sub [0] (lo2 := [(0, .ref 0)]) rfl ?_
        exact L_X10_pour_36 C w hf
      · have hf := (if_neg hc5).symm.trans hf
        refine g_iload C (gdec dt_X10_pour 12 rfl) rfl ?_
        refine g_if_lt C (tgt := 36) (gdec dt_X10_pour 13 rfl) (by decide) (fun hc6 => ?_) (fun hc6 => ?_)
        · have hf := (if_pos hc6).symm.trans hf
          refine g_sub [0] (lo2 := [(0, .ref 0)]) rfl ?_
          exact L_X10_pour_36 C w hf
        · have hf := (if_neg hc6).symm.trans hf
          refine g_iload C (gdec dt_X10_pour 14 rfl) rfl ?_
          refine g_if_ge C (tgt := 42) (gdec dt_X10_pour 15 rfl) (by decide) (fun hc7 => ?_) (fun hc7 => ?_)
          · have hf := (if_pos hc7).symm.trans hf
            refine g_aload_n C (gdec dt_X10_pour 20 rfl) (i := 0) rfl rfl ?_
            refine g_getr C (j := 1) kf_X10_12 rfl rfl (gdec dt_X10_pour 21 rfl) ?_
            refine g_iload_n C (gdec dt_X10_pour 22 rfl) (i := 1) rfl rfl ?_
            obtain ⟨q8, hq8, hf⟩ := Option.bind_eq_some_iff.mp hf
            refine g_invVs e_shX_shTr_1 [.int x1] [] C (c_X9_isThere l D cA _ (gInj_sub em_e_shX_shTr_1 (gCi C)) (gsub w e_shX_shTr_1) x1 q8 hq8) em_e_shX_shTr_1 (by decide) rfl kT_X9_isThere kl_X10_153 kim_X9_isThere kse_X9_isThere rfl rfl (i := 1) rfl rfl ⟨by decide, by decide⟩ gk0 (Nat.le_of_ble_eq_true rfl) (gdec dt_X10_pour 23 rfl) rfl (st2 := [.int q8]) (w2 := w) rfl (gput_sub _ _) ?_
            refine g_if_eq C (tgt := 64) (gdec dt_X10_pour 24 rfl) (by decide) (fun hc9 => ?_) (fun hc9 => ?_)
            · have hf := (if_pos hc9).symm.trans hf
              refine g_sub [0] (lo2 := [(0, .ref 0)]) rfl ?_
              exact L_X10_pour_64 C w hf
            · have hf := (if_neg hc9).symm.trans hf
              refine g_aload_n C (gdec dt_X10_pour 25 rfl) (i := 0) rfl rfl ?_
              refine g_getr C (j := 1) kf_X10_12 rfl rfl (gdec dt_X10_pour 26 rfl) ?_
              refine g_iload_n C (gdec dt_X10_pour 27 rfl) (i := 3) rfl rfl ?_
              obtain ⟨q10, hq10, hf⟩ := Option.bind_eq_some_iff.mp hf
              refine g_invVs e_shX_shTr_1 [.int x3] [] C (c_X9_isThere l D cA _ (gInj_sub em_e_shX_shTr_1 (gCi C)) (gsub w e_shX_shTr_1) x3 q10 hq10) em_e_shX_shTr_1 (by decide) rfl kT_X9_isThere kl_X10_153 kim_X9_isThere kse_X9_isThere rfl rfl (i := 1) rfl rfl ⟨by decide, by decide⟩ gk0 (Nat.le_of_ble_eq_true rfl) (gdec dt_X10_pour 28 rfl) rfl (st2 := [.int q10]) (w2 := w) rfl (gput_sub _ _) ?_
              refine g_if_ne C (tgt := 70) (gdec dt_X10_pour 29 rfl) (by decide) (fun hc11 => ?_) (fun hc11 => ?_)
              · have hf := (if_neg hc11).symm.trans hf
                refine g_aload_n C (gdec dt_X10_pour 34 rfl) (i := 0) rfl rfl ?_
                refine g_getr C (j := 1) kf_X10_12 rfl rfl (gdec dt_X10_pour 35 rfl) ?_
                refine g_iload_n C (gdec dt_X10_pour 36 rfl) (i := 1) rfl rfl ?_
                refine g_iload_n C (gdec dt_X10_pour 37 rfl) (i := 3) rfl rfl ?_
                obtain ⟨q12, hq12, hf⟩ := Option.bind_eq_some_iff.mp hf
                refine g_invVs e_shX_shTr_1 [.int x1, .int x3] [] C (c_X9_areAlike l D cA _ (gInj_sub em_e_shX_shTr_1 (gCi C)) (gsub w e_shX_shTr_1) x1 x3 q12 hq12) em_e_shX_shTr_1 (by decide) rfl kT_X9_areAlike kl_X10_156 kim_X9_areAlike kse_X9_areAlike rfl rfl (i := 1) rfl rfl ⟨by decide, by decide⟩ gk0 (Nat.le_of_ble_eq_true rfl) (gdec dt_X10_pour 38 rfl) rfl (st2 := [.int q12]) (w2 := w) rfl (gput_sub _ _) ?_
                refine g_if_ne C (tgt := 89) (gdec dt_X10_pour 39 rfl) (by decide) (fun hc13 => ?_) (fun hc13 => ?_)
                · have hf := (if_neg hc13).symm.trans hf
                  refine g_aload_n C (gdec dt_X10_pour 44 rfl) (i := 0) rfl rfl ?_
                  refine g_getr C (j := 1) kf_X10_12 rfl rfl (gdec dt_X10_pour 45 rfl) ?_
                  refine g_iload_n C (gdec dt_X10_pour 46 rfl) (i := 1) rfl rfl ?_
                  refine g_iload_n C (gdec dt_X10_pour 47 rfl) (i := 2) rfl rfl ?_
                  refine g_iload C (gdec dt_X10_pour 48 rfl) rfl ?_
                  obtain ⟨q14, hq14, hf⟩ := Option.bind_eq_some_iff.mp hf
                  refine g_invVs e_shX_shTr_1 [.int x1, .int x2, .int x5] [] C (c_X9_hasFrom l D cA _ (gInj_sub em_e_shX_shTr_1 (gCi C)) (gsub w e_shX_shTr_1) x1 x2 x5 q14 hq14) em_e_shX_shTr_1 (by decide) rfl kT_X9_hasFrom kl_X10_160 kim_X9_hasFrom kse_X9_hasFrom rfl rfl (i := 1) rfl rfl ⟨by decide, by decide⟩ gk0 (Nat.le_of_ble_eq_true rfl) (gdec dt_X10_pour 49 rfl) rfl (st2 := [.int q14]) (w2 := w) rfl (gput_sub _ _) ?_
                  refine g_if_eq C (tgt := 118) (gdec dt_X10_pour 50 rfl) (by decide) (fun hc15 => ?_) (fun hc15 => ?_)
                  · have hf := (if_pos hc15).symm.trans hf
                    refine g_sub [0] (lo2 := [(0, .ref 0)]) rfl ?_
                    exact L_X10_pour_118 C w hf
                  · have hf := (if_neg hc15).symm.trans hf
                    refine g_aload_n C (gdec dt_X10_pour 51 rfl) (i := 0) rfl rfl ?_
                    refine g_getr C (j := 1) kf_X10_12 rfl rfl (gdec dt_X10_pour 52 rfl) ?_
                    refine g_iload_n C (gdec dt_X10_pour 53 rfl) (i := 3) rfl rfl ?_
                    refine g_iload C (gdec dt_X10_pour 54 rfl) rfl ?_
                    refine g_iload C (gdec dt_X10_pour 55 rfl) rfl ?_
                    obtain ⟨q16, hq16, hf⟩ := Option.bind_eq_some_iff.mp hf
                    refine g_invVs e_shX_shTr_1 [.int x3, .int x4, .int x5] [] C (c_X9_hasFrom l D cA _ (gInj_sub em_e_shX_shTr_1 (gCi C)) (gsub w e_shX_shTr_1) x3 x4 x5 q16 hq16) em_e_shX_shTr_1 (by decide) rfl kT_X9_hasFrom kl_X10_160 kim_X9_hasFrom kse_X9_hasFrom rfl rfl (i := 1) rfl rfl ⟨by decide, by decide⟩ gk0 (Nat.le_of_ble_eq_true rfl) (gdec dt_X10_pour 56 rfl) rfl (st2 := [.int q16]) (w2 := w) rfl (gput_sub _ _) ?_
                    refine g_if_ne C (tgt := 124) (gdec dt_X10_pour 57 rfl) (by decide) (fun hc17 => ?_) (fun hc17 => ?_)
                    · have hf := (if_neg hc17).symm.trans hf
                      refine g_aload_n C (gdec dt_X10_pour 62 rfl) (i := 0) rfl rfl ?_
                      refine g_getr C (j := 1) kf_X10_12 rfl rfl (gdec dt_X10_pour 63 rfl) ?_
                      refine g_iload_n C (gdec dt_X10_pour 64 rfl) (i := 1) rfl rfl ?_
                      refine g_iload_n C (gdec dt_X10_pour 65 rfl) (i := 2) rfl rfl ?_
                      refine g_iload_n C (gdec dt_X10_pour 66 rfl) (i := 3) rfl rfl ?_
                      refine g_iload C (gdec dt_X10_pour 67 rfl) rfl ?_
                      refine g_iload C (gdec dt_X10_pour 68 rfl) rfl ?_
                      obtain ⟨q18, hq18, hf⟩ := Option.bind_eq_some_iff.mp hf
                      refine g_invVs e_shX_shTr_1 [.int x1, .int x2, .int x3, .int x4, .int x5] [] C (c_X9_shift l D cA _ (gInj_sub em_e_shX_shTr_1 (gCi C)) (gsub w e_shX_shTr_1) x1 x2 x3 x4 x5 q18 hq18) em_e_shX_shTr_1 (by decide) rfl kT_X9_shift kl_X10_163 kim_X9_shift kse_X9_shift rfl rfl (i := 1) rfl rfl ⟨by decide, by decide⟩ gk0 (Nat.le_of_ble_eq_true rfl) (gdec dt_X10_pour 69 rfl) rfl (st2 := []) (w2 := (gput w e_shX_shTr_1 q18)) rfl rfl ?_
                      refine g_aload_n C (gdec dt_X10_pour 70 rfl) (i := 0) rfl rfl ?_
                      obtain ⟨q19, hq19, hf⟩ := Option.bind_eq_some_iff.mp hf
                      refine g_invV [] [] C (c_X10_grant l D cA _ (gCi C) (gput w e_shX_shTr_1 q18)  q19 hq19) kT_X10_grant kl_X10_117 kim_X10_grant kse_X10_grant rfl rfl (i := 0) rfl rfl ⟨by decide, by decide⟩ gk0 (Nat.le_of_ble_eq_true rfl) (gdec dt_X10_pour 71 rfl) rfl (st2 := [.int q19.1]) rfl ?_
                      obtain ⟨hb20, hf⟩ := gif hf
                      cases hf
                      exact g_zret C hb20 rfl (gdec dt_X10_pour 72 rfl)
                    · have hf := (if_pos hc17).symm.trans hf
                      refine g_sub [0] (lo2 := [(0, .ref 0)]) rfl ?_
                      exact L_X10_pour_118 C w hf
                · have hf := (if_pos hc13).symm.trans hf
                  refine g_aload_n C (gdec dt_X10_pour 40 rfl) (i := 0) rfl rfl ?_
                  refine g_bipush C (gdec dt_X10_pour 41 rfl) bc_8 ?_
                  obtain ⟨q21, hq21, hf⟩ := Option.bind_eq_some_iff.mp hf
                  refine g_invV [.int (8 : Int32)] [] C (c_X10_deny l D cA _ (gCi C) w (8 : Int32) q21 hq21) kT_X10_deny kl_X10_134 kim_X10_deny kse_X10_deny rfl rfl (i := 0) rfl rfl ⟨by decide, by decide⟩ gk0 (Nat.le_of_ble_eq_true rfl) (gdec dt_X10_pour 42 rfl) rfl (st2 := [.int q21.1]) rfl ?_
                  obtain ⟨hb22, hf⟩ := gif hf
                  cases hf
                  exact g_zret C hb22 rfl (gdec dt_X10_pour 43 rfl)
              · have hf := (if_pos hc11).symm.trans hf
                refine g_sub [0] (lo2 := [(0, .ref 0)]) rfl ?_
                exact L_X10_pour_64 C w hf
          · have hf := (if_neg hc7).symm.trans hf
            refine g_sub [0] (lo2 := [(0, .ref 0)]) rfl ?_
            exact L_X10_pour_36 C w hf
set_option maxHeartbeats 4000000 in
set_option maxRecDepth 100000 in
theorem c_X10_feed (l : Launch) (D : va_G) (cA ad : Nat → Nat) (hin : gInj ad shX.length) (w : GW) (x1 : Int32) (x2 : Int32) (x3 : Int32) (x4 : Int32) (x5 : Int32) (q : (Int32 × GW)) (hf : F_X10_feed x1 x2 x3 x4 x5 w = some q) : gMet l yX10_feed cX10_feed 6 (some .int) 2 142 D cA ad shX [.ref 0, .int x1, .int x2, .int x3, .int x4, .int x5] w (some (.int q.1)) q.2 := by
  refine g_entry (by decide) hin (Nat.le_of_ble_eq_true rfl) ?_
  intro p e s m args below meth c C
  unfold F_X10_feed at hf
  show gW p l e (gRm 2 142) s m args below meth c D cA ad shX 6 0 0 (gQ below D cA ad shX (some (.int q.1)) q.2 args s) 0 [(0, .ref 0), (1, .int x1), (2, .int x2), (3, .int x3), (4, .int x4), (5, .int x5)] [] w
  refine g_aload_n C (gdec dt_X10_feed 0 rfl) (i := 0) rfl rfl ?_
  refine g_getr C (j := 9) kf_X10_19 rfl rfl (gdec dt_X10_feed 1 rfl) ?_
  refine g_bipush C (gdec dt_X10_feed 2 rfl) bc_20 ?_
  obtain ⟨q1, hq1, hf⟩ := Option.bind_eq_some_iff.mp hf
  refine g_invVs e_shX_shT_9 [.int (20 : Int32)] [] C (c_X8_hasRoomFor l D cA _ (gInj_sub em_e_shX_shT_9 (gCi C)) (gsub w e_shX_shT_9) (20 : Int32) q1 hq1) em_e_shX_shT_9 (by decide) rfl kT_X8_hasRoomFor kl_X10_167 kim_X8_hasRoomFor kse_X8_hasRoomFor rfl rfl (i := 9) rfl rfl ⟨by decide, by decide⟩ gk0 (Nat.le_of_ble_eq_true rfl) (gdec dt_X10_feed 3 rfl) rfl (st2 := [.int q1]) (w2 := w) rfl (gput_sub _ _) ?_
  refine g_if_ne C (tgt := 14) (gdec dt_X10_feed 4 rfl) (by decide) (fun hc2 => ?_) (fun hc2 => ?_)
  · have hf := (if_neg hc2).symm.trans hf
    refine g_aload_n C (gdec dt_X10_feed 7 rfl) (i := 0) rfl rfl ?_
    refine g_getr C (j := 9) kf_X10_19 rfl rfl (gdec dt_X10_feed 8 rfl) ?_
    refine g_iload_n C (gdec dt_X10_feed 9 rfl) (i := 1) rfl rfl ?_
    obtain ⟨q3, hq3, hf⟩ := Option.bind_eq_some_iff.mp hf
    refine g_invVs e_shX_shT_9 [.int x1] [] C (c_X8_append l D cA _ (gInj_sub em_e_shX_shT_9 (gCi C)) (gsub w e_shX_shT_9) x1 q3 hq3) em_e_shX_shT_9 (by decide) rfl kT_X8_append kl_X10_170 kim_X8_append kse_X8_append rfl rfl (i := 9) rfl rfl ⟨by decide, by decide⟩ gk0 (Nat.le_of_ble_eq_true rfl) (gdec dt_X10_feed 10 rfl) rfl (st2 := []) (w2 := (gput w e_shX_shT_9 q3)) rfl rfl ?_
    refine g_aload_n C (gdec dt_X10_feed 11 rfl) (i := 0) rfl rfl ?_
    refine g_getr C (j := 9) kf_X10_19 rfl rfl (gdec dt_X10_feed 12 rfl) ?_
    refine g_iload_n C (gdec dt_X10_feed 13 rfl) (i := 2) rfl rfl ?_
    obtain ⟨q4, hq4, hf⟩ := Option.bind_eq_some_iff.mp hf
    refine g_invVs e_shX_shT_9 [.int x2] [] C (c_X8_append l D cA _ (gInj_sub em_e_shX_shT_9 (gCi C)) (gsub (gput w e_shX_shT_9 q3) e_shX_shT_9) x2 q4 hq4) em_e_shX_shT_9 (by decide) rfl kT_X8_append kl_X10_170 kim_X8_append kse_X8_append rfl rfl (i := 9) rfl rfl ⟨by decide, by decide⟩ gk0 (Nat.le_of_ble_eq_true rfl) (gdec dt_X10_feed 14 rfl) rfl (st2 := []) (w2 := (gput (gput w e_shX_shT_9 q3) e_shX_shT_9 q4)) rfl rfl ?_
    refine g_aload_n C (gdec dt_X10_feed 15 rfl) (i := 0) rfl rfl ?_
    refine g_getr C (j := 9) kf_X10_19 rfl rfl (gdec dt_X10_feed 16 rfl) ?_
    refine g_iload_n C (gdec dt_X10_feed 17 rfl) (i := 3) rfl rfl ?_
    obtain ⟨q5, hq5, hf⟩ := Option.bind_eq_some_iff.mp hf
    refine g_invVs e_shX_shT_9 [.int x3] [] C (c_X8_append l D cA _ (gInj_sub em_e_shX_shT_9 (gCi C)) (gsub (gput (gput w e_shX_shT_9 q3) e_shX_shT_9 q4) e_shX_shT_9) x3 q5 hq5) em_e_shX_shT_9 (by decide) rfl kT_X8_append kl_X10_170 kim_X8_append kse_X8_append rfl rfl (i := 9) rfl rfl ⟨by decide, by decide⟩ gk0 (Nat.le_of_ble_eq_true rfl) (gdec dt_X10_feed 18 rfl) rfl (st2 := []) (w2 := (gput (gput (gput w e_shX_shT_9 q3) e_shX_shT_9 q4) e_shX_shT_9 q5)) rfl rfl ?_
    refine g_aload_n C (gdec dt_X10_feed 19 rfl) (i := 0) rfl rfl ?_
    refine g_getr C (j := 9) kf_X10_19 rfl rfl (gdec dt_X10_feed 20 rfl) ?_
    refine g_iload C (gdec dt_X10_feed 21 rfl) rfl ?_
    obtain ⟨q6, hq6, hf⟩ := Option.bind_eq_some_iff.mp hf
    refine g_invVs e_shX_shT_9 [.int x4] [] C (c_X8_append l D cA _ (gInj_sub em_e_shX_shT_9 (gCi C)) (gsub (gput (gput (gput w e_shX_shT_9 q3) e_shX_shT_9 q4) e_shX_shT_9 q5) e_shX_shT_9) x4 q6 hq6) em_e_shX_shT_9 (by decide) rfl kT_X8_append kl_X10_170 kim_X8_append kse_X8_append rfl rfl (i := 9) rfl rfl ⟨by decide, by decide⟩ gk0 (Nat.le_of_ble_eq_true rfl) (gdec dt_X10_feed 22 rfl) rfl (st2 := []) (w2 := (gput (gput (gput (gput w e_shX_shT_9 q3) e_shX_shT_9 q4) e_shX_shT_9 q5) e_shX_shT_9 q6)) rfl rfl ?_
    refine g_aload_n C (gdec dt_X10_feed 23 rfl) (i := 0) rfl rfl ?_
    refine g_getr C (j := 9) kf_X10_19 rfl rfl (gdec dt_X10_feed 24 rfl) ?_
    refine g_iload C (gdec dt_X10_feed 25 rfl) rfl ?_
    obtain ⟨q7, hq7, hf⟩ := Option.bind_eq_some_iff.mp hf
    refine g_invVs e_shX_shT_9 [.int x5] [] C (c_X8_append l D cA _ (gInj_sub em_e_shX_shT_9 (gCi C)) (gsub (gput (gput (gput (gput w e_shX_shT_9 q3) e_shX_shT_9 q4) e_shX_shT_9 q5) e_shX_shT_9 q6) e_shX_shT_9) x5 q7 hq7) em_e_shX_shT_9 (by decide) rfl kT_X8_append kl_X10_170 kim_X8_append kse_X8_append rfl rfl (i := 9) rfl rfl ⟨by decide, by decide⟩ gk0 (Nat.le_of_ble_eq_true rfl) (gdec dt_X10_feed 26 rfl) rfl (st2 := []) (w2 := (gput (gput (gput (gput (gput w e_shX_shT_9 q3) e_shX_shT_9 q4) e_shX_shT_9 q5) e_shX_shT_9 q6) e_shX_shT_9 q7)) rfl rfl ?_
    refine g_aload_n C (gdec dt_X10_feed 27 rfl) (i := 0) rfl rfl ?_
    refine g_getr C (j := 9) kf_X10_19 rfl rfl (gdec dt_X10_feed 28 rfl) ?_
    refine g_getiv C kf_X10_174 rfl rfl (gdec dt_X10_feed 29 rfl) (v := (q7.1 0 0)) rfl ?_
    cases hf
    exact g_iret C rfl (gdec dt_X10_feed 30 rfl)
  · have hf := (if_pos hc2).symm.trans hf
    refine g_iconst C (gdec dt_X10_feed 5 rfl) ic_m1 ?_
    cases hf
    exact g_iret C rfl (gdec dt_X10_feed 6 rfl)
set_option maxHeartbeats 4000000 in
set_option maxRecDepth 100000 in
theorem L_X10_bank_15 {p : Program} {l : Launch} {e : Env} {s : State} {m : MethodId} {args : Array Value} {below : List Frame} {meth : Method} {c : Code} {D : va_G} {cA ad : Nat → Nat} {q : (Int32 × GW)} (C : gC p c cX10_bank meth m s args 2 (some .int) RX10 D cA ad shX) (w : GW) (hf : f_X10_bank_15 w = some q) : gW p l e (gRm 11 741) s m args below meth c D cA ad shX 2 0 0 (gQ below D cA ad shX (some (.int q.1)) q.2 args s) 15 [(0, .ref 0)] [] w := by
  unfold f_X10_bank_15 at hf
  refine g_aload_n C (gdec dt_X10_bank 7 rfl) (i := 0) rfl rfl ?_
  refine g_iconst C (gdec dt_X10_bank 8 rfl) ic_1 ?_
  obtain ⟨q10, hq10, hf⟩ := Option.bind_eq_some_iff.mp hf
  refine g_invV [.int (1 : Int32)] [] C (c_X10_refuse l D cA _ (gCi C) w (1 : Int32) q10 hq10) kT_X10_refuse kl_X10_110 kim_X10_refuse kse_X10_refuse rfl rfl (i := 0) rfl rfl ⟨by decide, by decide⟩ gk0 (Nat.le_of_ble_eq_true rfl) (gdec dt_X10_bank 9 rfl) rfl (st2 := [.int q10.1]) rfl ?_
  cases hf
  exact g_iret C rfl (gdec dt_X10_bank 10 rfl)
set_option maxHeartbeats 4000000 in
set_option maxRecDepth 100000 in
theorem c_X10_bank (l : Launch) (D : va_G) (cA ad : Nat → Nat) (hin : gInj ad shX.length) (w : GW) (x1 : Int32) (q : (Int32 × GW)) (hf : F_X10_bank x1 w = some q) : gMet l yX10_bank cX10_bank 2 (some .int) 11 741 D cA ad shX [.ref 0, .int x1] w (some (.int q.1)) q.2 := by
  refine g_entry (by decide) hin (Nat.le_of_ble_eq_true rfl) ?_
  intro p e s m args below meth c C
  unfold F_X10_bank at hf
  show gW p l e (gRm 11 741) s m args below meth c D cA ad shX 2 0 0 (gQ below D cA ad shX (some (.int q.1)) q.2 args s) 0 [(0, .ref 0), (1, .int x1)] [] w
  refine g_iload_n C (gdec dt_X10_bank 0 rfl) (i := 1) rfl rfl ?_
  refine g_if_lt C (tgt := 15) (gdec dt_X10_bank 1 rfl) (by decide) (fun hc1 => ?_) (fun hc1 => ?_)
  · have hf := (if_pos hc1).symm.trans hf
    refine g_sub [0] (lo2 := [(0, .ref 0)]) rfl ?_
    exact L_X10_bank_15 C w hf
  · have hf := (if_neg hc1).symm.trans hf
    refine g_iload_n C (gdec dt_X10_bank 2 rfl) (i := 1) rfl rfl ?_
    refine g_aload_n C (gdec dt_X10_bank 3 rfl) (i := 0) rfl rfl ?_
    refine g_getr C (j := 9) kf_X10_19 rfl rfl (gdec dt_X10_bank 4 rfl) ?_
    refine g_geti C kf_X10_174 rfl rfl (gdec dt_X10_bank 5 rfl) ?_
    refine g_icmp_le C (tgt := 21) (gdec dt_X10_bank 6 rfl) (by decide) (fun hc2 => ?_) (fun hc2 => ?_)
    · have hf := (if_pos hc2).symm.trans hf
      refine g_aload_n C (gdec dt_X10_bank 11 rfl) (i := 0) rfl rfl ?_
      refine g_getr C (j := 9) kf_X10_19 rfl rfl (gdec dt_X10_bank 12 rfl) ?_
      refine g_iload_n C (gdec dt_X10_bank 13 rfl) (i := 1) rfl rfl ?_
      obtain ⟨q3, hq3, hf⟩ := Option.bind_eq_some_iff.mp hf
      refine g_invVs e_shX_shT_9 [.int x1] [] C (c_X8_begin l D cA _ (gInj_sub em_e_shX_shT_9 (gCi C)) (gsub w e_shX_shT_9) x1 q3 hq3) em_e_shX_shT_9 (by decide) rfl kT_X8_begin kl_X10_177 kim_X8_begin kse_X8_begin rfl rfl (i := 9) rfl rfl ⟨by decide, by decide⟩ gk0 (Nat.le_of_ble_eq_true rfl) (gdec dt_X10_bank 14 rfl) rfl (st2 := []) (w2 := (gput w e_shX_shT_9 q3)) rfl rfl ?_
      refine g_aload_n C (gdec dt_X10_bank 15 rfl) (i := 0) rfl rfl ?_
      refine g_getr C (j := 56) kf_X10_48 rfl rfl (gdec dt_X10_bank 16 rfl) ?_
      obtain ⟨q4, hq4, hf⟩ := Option.bind_eq_some_iff.mp hf
      refine g_invVs e_shX_shBR_56 [] [] C (c_X1_readParts l D cA _ (gInj_sub em_e_shX_shBR_56 (gCi C)) (gsub (gput w e_shX_shT_9 q3) e_shX_shBR_56)  q4 hq4) em_e_shX_shBR_56 (by decide) rfl kT_X1_readParts kl_X10_180 kim_X1_readParts kse_X1_readParts rfl rfl (i := 56) rfl rfl ⟨by decide, by decide⟩ gk0 (Nat.le_of_ble_eq_true rfl) (gdec dt_X10_bank 17 rfl) rfl (st2 := [.int q4.1]) (w2 := (gput (gput w e_shX_shT_9 q3) e_shX_shBR_56 q4.2)) rfl rfl ?_
      refine g_if_ne C (tgt := 46) (gdec dt_X10_bank 18 rfl) (by decide) (fun hc5 => ?_) (fun hc5 => ?_)
      · have hf := (if_neg hc5).symm.trans hf
        refine g_aload_n C (gdec dt_X10_bank 23 rfl) (i := 0) rfl rfl ?_
        refine g_getr C (j := 14) kf_X10_26 rfl rfl (gdec dt_X10_bank 24 rfl) ?_
        refine g_aload_n C (gdec dt_X10_bank 25 rfl) (i := 0) rfl rfl ?_
        refine g_getr C (j := 27) kf_X10_30 rfl rfl (gdec dt_X10_bank 26 rfl) ?_
        obtain ⟨q6, hq6, hf⟩ := Option.bind_eq_some_iff.mp hf
        refine g_invVs e_shX_shBB_14_27 [.ref 27] [] C (c_X0_copyFrom l D cA _ (gInj_sub em_e_shX_shBB_14_27 (gCi C)) (gsub (gput (gput w e_shX_shT_9 q3) e_shX_shBR_56 q4.2) e_shX_shBB_14_27)  q6 hq6) em_e_shX_shBB_14_27 (by decide) rfl kT_X0_copyFrom kl_X10_183 kim_X0_copyFrom kse_X0_copyFrom rfl rfl (i := 14) rfl rfl ⟨by decide, by decide⟩ gk0 (Nat.le_of_ble_eq_true rfl) (gdec dt_X10_bank 27 rfl) rfl (st2 := []) (w2 := (gput (gput (gput w e_shX_shT_9 q3) e_shX_shBR_56 q4.2) e_shX_shBB_14_27 q6)) rfl rfl ?_
        refine g_aload_n C (gdec dt_X10_bank 28 rfl) (i := 0) rfl rfl ?_
        refine g_getr C (j := 40) kf_X10_36 rfl rfl (gdec dt_X10_bank 29 rfl) ?_
        obtain ⟨q7, hq7, hf⟩ := Option.bind_eq_some_iff.mp hf
        refine g_invVs e_shX_shP_40 [] [] C (c_X5_clear l D cA _ (gInj_sub em_e_shX_shP_40 (gCi C)) (gsub (gput (gput (gput w e_shX_shT_9 q3) e_shX_shBR_56 q4.2) e_shX_shBB_14_27 q6) e_shX_shP_40)  q7 hq7) em_e_shX_shP_40 (by decide) rfl kT_X5_clear kl_X10_187 kim_X5_clear kse_X5_clear rfl rfl (i := 40) rfl rfl ⟨by decide, by decide⟩ gk0 (Nat.le_of_ble_eq_true rfl) (gdec dt_X10_bank 30 rfl) rfl (st2 := []) (w2 := (gput (gput (gput (gput w e_shX_shT_9 q3) e_shX_shBR_56 q4.2) e_shX_shBB_14_27 q6) e_shX_shP_40 q7)) rfl rfl ?_
        refine g_aload_n C (gdec dt_X10_bank 31 rfl) (i := 0) rfl rfl ?_
        refine g_aload_n C (gdec dt_X10_bank 32 rfl) (i := 0) rfl rfl ?_
        refine g_getr C (j := 14) kf_X10_26 rfl rfl (gdec dt_X10_bank 33 rfl) ?_
        refine g_getiv C kf_X10_190 rfl rfl (gdec dt_X10_bank 34 rfl) (v := (q6.1 0 5)) rfl ?_
        obtain ⟨q8, hq8, hf⟩ := Option.bind_eq_some_iff.mp hf
        refine g_invV [.int (q6.1 0 5)] [] C (c_X10_answer l D cA _ (gCi C) (gput (gput (gput (gput w e_shX_shT_9 q3) e_shX_shBR_56 q4.2) e_shX_shBB_14_27 q6) e_shX_shP_40 q7) (q6.1 0 5) q8 hq8) kT_X10_answer kl_X10_114 kim_X10_answer kse_X10_answer rfl rfl (i := 0) rfl rfl ⟨by decide, by decide⟩ gk0 (Nat.le_of_ble_eq_true rfl) (gdec dt_X10_bank 35 rfl) rfl (st2 := [.int q8.1]) rfl ?_
        cases hf
        exact g_iret C rfl (gdec dt_X10_bank 36 rfl)
      · have hf := (if_pos hc5).symm.trans hf
        refine g_aload_n C (gdec dt_X10_bank 19 rfl) (i := 0) rfl rfl ?_
        refine g_bipush C (gdec dt_X10_bank 20 rfl) bc_9 ?_
        obtain ⟨q9, hq9, hf⟩ := Option.bind_eq_some_iff.mp hf
        refine g_invV [.int (9 : Int32)] [] C (c_X10_refuse l D cA _ (gCi C) (gput (gput w e_shX_shT_9 q3) e_shX_shBR_56 q4.2) (9 : Int32) q9 hq9) kT_X10_refuse kl_X10_110 kim_X10_refuse kse_X10_refuse rfl rfl (i := 0) rfl rfl ⟨by decide, by decide⟩ gk0 (Nat.le_of_ble_eq_true rfl) (gdec dt_X10_bank 21 rfl) rfl (st2 := [.int q9.1]) rfl ?_
        cases hf
        exact g_iret C rfl (gdec dt_X10_bank 22 rfl)
    · have hf := (if_neg hc2).symm.trans hf
      refine g_sub [0] (lo2 := [(0, .ref 0)]) rfl ?_
      exact L_X10_bank_15 C w hf
set_option maxHeartbeats 4000000 in
set_option maxRecDepth 100000 in
theorem L_X10_decades_22 {p : Program} {l : Launch} {e : Env} {s : State} {m : MethodId} {args : Array Value} {below : List Frame} {meth : Method} {c : Code} {D : va_G} {cA ad : Nat → Nat} {q : (Int32 × GW)} (C : gC p c cX10_decades meth m s args 2 (some .int) RX10 D cA ad shX) (w : GW) (hf : f_X10_decades_22 w = some q) : gW p l e (gRm 11 741) s m args below meth c D cA ad shX 2 0 0 (gQ below D cA ad shX (some (.int q.1)) q.2 args s) 22 [(0, .ref 0)] [] w := by
  unfold f_X10_decades_22 at hf
  refine g_aload_n C (gdec dt_X10_decades 10 rfl) (i := 0) rfl rfl ?_
  refine g_iconst C (gdec dt_X10_decades 11 rfl) ic_1 ?_
  obtain ⟨q10, hq10, hf⟩ := Option.bind_eq_some_iff.mp hf
  refine g_invV [.int (1 : Int32)] [] C (c_X10_refuse l D cA _ (gCi C) w (1 : Int32) q10 hq10) kT_X10_refuse kl_X10_110 kim_X10_refuse kse_X10_refuse rfl rfl (i := 0) rfl rfl ⟨by decide, by decide⟩ gk0 (Nat.le_of_ble_eq_true rfl) (gdec dt_X10_decades 12 rfl) rfl (st2 := [.int q10.1]) rfl ?_
  cases hf
  exact g_iret C rfl (gdec dt_X10_decades 13 rfl)
set_option maxHeartbeats 4000000 in
set_option maxRecDepth 100000 in
theorem c_X10_decades (l : Launch) (D : va_G) (cA ad : Nat → Nat) (hin : gInj ad shX.length) (w : GW) (x1 : Int32) (q : (Int32 × GW)) (hf : F_X10_decades x1 w = some q) : gMet l yX10_decades cX10_decades 2 (some .int) 11 741 D cA ad shX [.ref 0, .int x1] w (some (.int q.1)) q.2 := by
  refine g_entry (by decide) hin (Nat.le_of_ble_eq_true rfl) ?_
  intro p e s m args below meth c C
  unfold F_X10_decades at hf
  show gW p l e (gRm 11 741) s m args below meth c D cA ad shX 2 0 0 (gQ below D cA ad shX (some (.int q.1)) q.2 args s) 0 [(0, .ref 0), (1, .int x1)] [] w
  refine g_iload_n C (gdec dt_X10_decades 0 rfl) (i := 1) rfl rfl ?_
  refine g_if_lt C (tgt := 22) (gdec dt_X10_decades 1 rfl) (by decide) (fun hc1 => ?_) (fun hc1 => ?_)
  · have hf := (if_pos hc1).symm.trans hf
    refine g_sub [0] (lo2 := [(0, .ref 0)]) rfl ?_
    exact L_X10_decades_22 C w hf
  · have hf := (if_neg hc1).symm.trans hf
    refine g_iload_n C (gdec dt_X10_decades 2 rfl) (i := 1) rfl rfl ?_
    refine g_aload_n C (gdec dt_X10_decades 3 rfl) (i := 0) rfl rfl ?_
    refine g_getr C (j := 9) kf_X10_19 rfl rfl (gdec dt_X10_decades 4 rfl) ?_
    refine g_geti C kf_X10_174 rfl rfl (gdec dt_X10_decades 5 rfl) ?_
    refine g_icmp_gt C (tgt := 22) (gdec dt_X10_decades 6 rfl) (by decide) (fun hc2 => ?_) (fun hc2 => ?_)
    · have hf := (if_pos hc2).symm.trans hf
      refine g_sub [0] (lo2 := [(0, .ref 0)]) rfl ?_
      exact L_X10_decades_22 C w hf
    · have hf := (if_neg hc2).symm.trans hf
      refine g_iload_n C (gdec dt_X10_decades 7 rfl) (i := 1) rfl rfl ?_
      refine g_sipush C (gdec dt_X10_decades 8 rfl) sc_300 ?_
      refine g_icmp_le C (tgt := 28) (gdec dt_X10_decades 9 rfl) (by decide) (fun hc3 => ?_) (fun hc3 => ?_)
      · have hf := (if_pos hc3).symm.trans hf
        refine g_aload_n C (gdec dt_X10_decades 14 rfl) (i := 0) rfl rfl ?_
        refine g_getr C (j := 9) kf_X10_19 rfl rfl (gdec dt_X10_decades 15 rfl) ?_
        refine g_iload_n C (gdec dt_X10_decades 16 rfl) (i := 1) rfl rfl ?_
        obtain ⟨q4, hq4, hf⟩ := Option.bind_eq_some_iff.mp hf
        refine g_invVs e_shX_shT_9 [.int x1] [] C (c_X8_begin l D cA _ (gInj_sub em_e_shX_shT_9 (gCi C)) (gsub w e_shX_shT_9) x1 q4 hq4) em_e_shX_shT_9 (by decide) rfl kT_X8_begin kl_X10_177 kim_X8_begin kse_X8_begin rfl rfl (i := 9) rfl rfl ⟨by decide, by decide⟩ gk0 (Nat.le_of_ble_eq_true rfl) (gdec dt_X10_decades 17 rfl) rfl (st2 := []) (w2 := (gput w e_shX_shT_9 q4)) rfl rfl ?_
        refine g_aload_n C (gdec dt_X10_decades 18 rfl) (i := 0) rfl rfl ?_
        refine g_getr C (j := 57) kf_X10_57 rfl rfl (gdec dt_X10_decades 19 rfl) ?_
        obtain ⟨q5, hq5, hf⟩ := Option.bind_eq_some_iff.mp hf
        refine g_invVs e_shX_shPR_57 [] [] C (c_X6_readSteps l D cA _ (gInj_sub em_e_shX_shPR_57 (gCi C)) (gsub (gput w e_shX_shT_9 q4) e_shX_shPR_57)  q5 hq5) em_e_shX_shPR_57 (by decide) rfl kT_X6_readSteps kl_X10_193 kim_X6_readSteps kse_X6_readSteps rfl rfl (i := 57) rfl rfl ⟨by decide, by decide⟩ gk0 (Nat.le_of_ble_eq_true rfl) (gdec dt_X10_decades 20 rfl) rfl (st2 := [.int q5.1]) (w2 := (gput (gput w e_shX_shT_9 q4) e_shX_shPR_57 q5.2)) rfl rfl ?_
        refine g_if_ne C (tgt := 53) (gdec dt_X10_decades 21 rfl) (by decide) (fun hc6 => ?_) (fun hc6 => ?_)
        · have hf := (if_neg hc6).symm.trans hf
          refine g_aload_n C (gdec dt_X10_decades 26 rfl) (i := 0) rfl rfl ?_
          refine g_getr C (j := 40) kf_X10_36 rfl rfl (gdec dt_X10_decades 27 rfl) ?_
          refine g_aload_n C (gdec dt_X10_decades 28 rfl) (i := 0) rfl rfl ?_
          refine g_getr C (j := 48) kf_X10_40 rfl rfl (gdec dt_X10_decades 29 rfl) ?_
          obtain ⟨q7, hq7, hf⟩ := Option.bind_eq_some_iff.mp hf
          refine g_invVs e_shX_shPP_40_48 [.ref 48] [] C (c_X5_copyFrom l D cA _ (gInj_sub em_e_shX_shPP_40_48 (gCi C)) (gsub (gput (gput w e_shX_shT_9 q4) e_shX_shPR_57 q5.2) e_shX_shPP_40_48)  q7 hq7) em_e_shX_shPP_40_48 (by decide) rfl kT_X5_copyFrom kl_X10_196 kim_X5_copyFrom kse_X5_copyFrom rfl rfl (i := 40) rfl rfl ⟨by decide, by decide⟩ gk0 (Nat.le_of_ble_eq_true rfl) (gdec dt_X10_decades 30 rfl) rfl (st2 := []) (w2 := (gput (gput (gput w e_shX_shT_9 q4) e_shX_shPR_57 q5.2) e_shX_shPP_40_48 q7)) rfl rfl ?_
          refine g_aload_n C (gdec dt_X10_decades 31 rfl) (i := 0) rfl rfl ?_
          refine g_aload_n C (gdec dt_X10_decades 32 rfl) (i := 0) rfl rfl ?_
          refine g_getr C (j := 40) kf_X10_36 rfl rfl (gdec dt_X10_decades 33 rfl) ?_
          refine g_getiv C kf_X10_199 rfl rfl (gdec dt_X10_decades 34 rfl) (v := (q7.1 0 1)) rfl ?_
          obtain ⟨q8, hq8, hf⟩ := Option.bind_eq_some_iff.mp hf
          refine g_invV [.int (q7.1 0 1)] [] C (c_X10_answer l D cA _ (gCi C) (gput (gput (gput w e_shX_shT_9 q4) e_shX_shPR_57 q5.2) e_shX_shPP_40_48 q7) (q7.1 0 1) q8 hq8) kT_X10_answer kl_X10_114 kim_X10_answer kse_X10_answer rfl rfl (i := 0) rfl rfl ⟨by decide, by decide⟩ gk0 (Nat.le_of_ble_eq_true rfl) (gdec dt_X10_decades 35 rfl) rfl (st2 := [.int q8.1]) rfl ?_
          cases hf
          exact g_iret C rfl (gdec dt_X10_decades 36 rfl)
        · have hf := (if_pos hc6).symm.trans hf
          refine g_aload_n C (gdec dt_X10_decades 22 rfl) (i := 0) rfl rfl ?_
          refine g_bipush C (gdec dt_X10_decades 23 rfl) bc_9 ?_
          obtain ⟨q9, hq9, hf⟩ := Option.bind_eq_some_iff.mp hf
          refine g_invV [.int (9 : Int32)] [] C (c_X10_refuse l D cA _ (gCi C) (gput (gput w e_shX_shT_9 q4) e_shX_shPR_57 q5.2) (9 : Int32) q9 hq9) kT_X10_refuse kl_X10_110 kim_X10_refuse kse_X10_refuse rfl rfl (i := 0) rfl rfl ⟨by decide, by decide⟩ gk0 (Nat.le_of_ble_eq_true rfl) (gdec dt_X10_decades 24 rfl) rfl (st2 := [.int q9.1]) rfl ?_
          cases hf
          exact g_iret C rfl (gdec dt_X10_decades 25 rfl)
      · have hf := (if_neg hc3).symm.trans hf
        refine g_sub [0] (lo2 := [(0, .ref 0)]) rfl ?_
        exact L_X10_decades_22 C w hf
set_option maxHeartbeats 4000000 in
set_option maxRecDepth 100000 in
theorem c_X10_fault (l : Launch) (D : va_G) (cA ad : Nat → Nat) (hin : gInj ad shX.length) (w : GW) (x1 : Int32) (q : Int32) (hf : F_X10_fault w x1 = some q) : gMet l yX10_fault cX10_fault 2 (some .int) 1 120 D cA ad shX [.ref 0, .int x1] w (some (.int q)) w := by
  refine g_entry (by decide) hin (Nat.le_of_ble_eq_true rfl) ?_
  intro p e s m args below meth c C
  unfold F_X10_fault at hf
  show gW p l e (gRm 1 120) s m args below meth c D cA ad shX 2 0 0 (gQ below D cA ad shX (some (.int q)) w args s) 0 [(0, .ref 0), (1, .int x1)] [] w
  refine g_iload_n C (gdec dt_X10_fault 0 rfl) (i := 1) rfl rfl ?_
  refine g_if_ne C (tgt := 12) (gdec dt_X10_fault 1 rfl) (by decide) (fun hc1 => ?_) (fun hc1 => ?_)
  · have hf := (if_neg hc1).symm.trans hf
    refine g_iload_n C (gdec dt_X10_fault 6 rfl) (i := 1) rfl rfl ?_
    refine g_iconst C (gdec dt_X10_fault 7 rfl) ic_1 ?_
    refine g_icmp_ne C (tgt := 27) (gdec dt_X10_fault 8 rfl) (by decide) (fun hc2 => ?_) (fun hc2 => ?_)
    · have hf := (if_neg hc2).symm.trans hf
      refine g_iconst C (gdec dt_X10_fault 13 rfl) ic_m1 ?_
      cases hf
      exact g_iret C rfl (gdec dt_X10_fault 14 rfl)
    · have hf := (if_pos hc2).symm.trans hf
      refine g_aload_n C (gdec dt_X10_fault 9 rfl) (i := 0) rfl rfl ?_
      refine g_getr C (j := 9) kf_X10_19 rfl rfl (gdec dt_X10_fault 10 rfl) ?_
      refine g_geti C kf_X10_205 rfl rfl (gdec dt_X10_fault 11 rfl) ?_
      refine g_goto C (tgt := 28) (gdec dt_X10_fault 12 rfl) (by decide) ?_
      cases hf
      exact g_iret C rfl (gdec dt_X10_fault 14 rfl)
  · have hf := (if_pos hc1).symm.trans hf
    refine g_aload_n C (gdec dt_X10_fault 2 rfl) (i := 0) rfl rfl ?_
    refine g_getr C (j := 9) kf_X10_19 rfl rfl (gdec dt_X10_fault 3 rfl) ?_
    refine g_geti C kf_X10_202 rfl rfl (gdec dt_X10_fault 4 rfl) ?_
    cases hf
    exact g_iret C rfl (gdec dt_X10_fault 5 rfl)
set_option maxHeartbeats 4000000 in
set_option maxRecDepth 100000 in
theorem c_X10_toldOf (l : Launch) (D : va_G) (cA ad : Nat → Nat) (hin : gInj ad shX.length) (w : GW) (x1 : Int32) (q : Int32) (hf : F_X10_toldOf w x1 = some q) : gMet l yX10_toldOf cX10_toldOf 2 (some .int) 3 163 D cA ad shX [.ref 0, .int x1] w (some (.int q)) w := by
  refine g_entry (by decide) hin (Nat.le_of_ble_eq_true rfl) ?_
  intro p e s m args below meth c C
  unfold F_X10_toldOf at hf
  show gW p l e (gRm 3 163) s m args below meth c D cA ad shX 2 0 0 (gQ below D cA ad shX (some (.int q)) w args s) 0 [(0, .ref 0), (1, .int x1)] [] w
  refine g_iload_n C (gdec dt_X10_toldOf 0 rfl) (i := 1) rfl rfl ?_
  by_cases hc1 : x1 = (0 : Int32)
  · have hf := (if_pos hc1).symm.trans hf
    refine g_tableIn C (tgt := 56) (off := 55) (gdec dt_X10_toldOf 1 rfl) (by rw [hc1]; decide) (by rw [hc1]; decide) (by rw [hc1]; decide) (by decide) ?_
    refine g_aload_n C (gdec dt_X10_toldOf 2 rfl) (i := 0) rfl rfl ?_
    refine g_getr C (j := 14) kf_X10_26 rfl rfl (gdec dt_X10_toldOf 3 rfl) ?_
    refine g_geti C kf_X10_211 rfl rfl (gdec dt_X10_toldOf 4 rfl) ?_
    cases hf
    exact g_iret C rfl (gdec dt_X10_toldOf 5 rfl)
  replace hf := (if_neg hc1).symm.trans hf
  by_cases hc2 : x1 = (1 : Int32)
  · have hf := (if_pos hc2).symm.trans hf
    refine g_tableIn C (tgt := 64) (off := 63) (gdec dt_X10_toldOf 1 rfl) (by rw [hc2]; decide) (by rw [hc2]; decide) (by rw [hc2]; decide) (by decide) ?_
    refine g_aload_n C (gdec dt_X10_toldOf 6 rfl) (i := 0) rfl rfl ?_
    refine g_getr C (j := 14) kf_X10_26 rfl rfl (gdec dt_X10_toldOf 7 rfl) ?_
    refine g_geti C kf_X10_214 rfl rfl (gdec dt_X10_toldOf 8 rfl) ?_
    cases hf
    exact g_iret C rfl (gdec dt_X10_toldOf 9 rfl)
  replace hf := (if_neg hc2).symm.trans hf
  by_cases hc3 : x1 = (2 : Int32)
  · have hf := (if_pos hc3).symm.trans hf
    refine g_tableIn C (tgt := 72) (off := 71) (gdec dt_X10_toldOf 1 rfl) (by rw [hc3]; decide) (by rw [hc3]; decide) (by rw [hc3]; decide) (by decide) ?_
    refine g_aload_n C (gdec dt_X10_toldOf 10 rfl) (i := 0) rfl rfl ?_
    refine g_getr C (j := 14) kf_X10_26 rfl rfl (gdec dt_X10_toldOf 11 rfl) ?_
    refine g_geti C kf_X10_190 rfl rfl (gdec dt_X10_toldOf 12 rfl) ?_
    cases hf
    exact g_iret C rfl (gdec dt_X10_toldOf 13 rfl)
  replace hf := (if_neg hc3).symm.trans hf
  by_cases hc4 : x1 = (3 : Int32)
  · have hf := (if_pos hc4).symm.trans hf
    refine g_tableIn C (tgt := 80) (off := 79) (gdec dt_X10_toldOf 1 rfl) (by rw [hc4]; decide) (by rw [hc4]; decide) (by rw [hc4]; decide) (by decide) ?_
    refine g_aload_n C (gdec dt_X10_toldOf 14 rfl) (i := 0) rfl rfl ?_
    refine g_getr C (j := 14) kf_X10_26 rfl rfl (gdec dt_X10_toldOf 15 rfl) ?_
    refine g_geti C kf_X10_217 rfl rfl (gdec dt_X10_toldOf 16 rfl) ?_
    cases hf
    exact g_iret C rfl (gdec dt_X10_toldOf 17 rfl)
  replace hf := (if_neg hc4).symm.trans hf
  by_cases hc5 : x1 = (4 : Int32)
  · have hf := (if_pos hc5).symm.trans hf
    refine g_tableIn C (tgt := 88) (off := 87) (gdec dt_X10_toldOf 1 rfl) (by rw [hc5]; decide) (by rw [hc5]; decide) (by rw [hc5]; decide) (by decide) ?_
    refine g_aload_n C (gdec dt_X10_toldOf 18 rfl) (i := 0) rfl rfl ?_
    refine g_getr C (j := 14) kf_X10_26 rfl rfl (gdec dt_X10_toldOf 19 rfl) ?_
    refine g_geti C kf_X10_220 rfl rfl (gdec dt_X10_toldOf 20 rfl) ?_
    cases hf
    exact g_iret C rfl (gdec dt_X10_toldOf 21 rfl)
  replace hf := (if_neg hc5).symm.trans hf
  by_cases hc6 : x1 = (5 : Int32)
  · have hf := (if_pos hc6).symm.trans hf
    refine g_tableIn C (tgt := 96) (off := 95) (gdec dt_X10_toldOf 1 rfl) (by rw [hc6]; decide) (by rw [hc6]; decide) (by rw [hc6]; decide) (by decide) ?_
    refine g_aload_n C (gdec dt_X10_toldOf 22 rfl) (i := 0) rfl rfl ?_
    refine g_getr C (j := 14) kf_X10_26 rfl rfl (gdec dt_X10_toldOf 23 rfl) ?_
    refine g_geti C kf_X10_223 rfl rfl (gdec dt_X10_toldOf 24 rfl) ?_
    cases hf
    exact g_iret C rfl (gdec dt_X10_toldOf 25 rfl)
  replace hf := (if_neg hc6).symm.trans hf
  by_cases hc7 : x1 = (6 : Int32)
  · have hf := (if_pos hc7).symm.trans hf
    refine g_tableIn C (tgt := 104) (off := 103) (gdec dt_X10_toldOf 1 rfl) (by rw [hc7]; decide) (by rw [hc7]; decide) (by rw [hc7]; decide) (by decide) ?_
    refine g_aload_n C (gdec dt_X10_toldOf 26 rfl) (i := 0) rfl rfl ?_
    refine g_getr C (j := 14) kf_X10_26 rfl rfl (gdec dt_X10_toldOf 27 rfl) ?_
    refine g_geti C kf_X10_226 rfl rfl (gdec dt_X10_toldOf 28 rfl) ?_
    cases hf
    exact g_iret C rfl (gdec dt_X10_toldOf 29 rfl)
  replace hf := (if_neg hc7).symm.trans hf
  by_cases hc8 : x1 = (7 : Int32)
  · have hf := (if_pos hc8).symm.trans hf
    refine g_tableIn C (tgt := 112) (off := 111) (gdec dt_X10_toldOf 1 rfl) (by rw [hc8]; decide) (by rw [hc8]; decide) (by rw [hc8]; decide) (by decide) ?_
    refine g_aload_n C (gdec dt_X10_toldOf 30 rfl) (i := 0) rfl rfl ?_
    refine g_getr C (j := 14) kf_X10_26 rfl rfl (gdec dt_X10_toldOf 31 rfl) ?_
    obtain ⟨q9, hq9, hf⟩ := Option.bind_eq_some_iff.mp hf
    refine g_invVs e_shX_shB_14 [] [] C (c_X0_unpaidOfAll l D cA _ (gInj_sub em_e_shX_shB_14 (gCi C)) (gsub w e_shX_shB_14)  q9 hq9) em_e_shX_shB_14 (by decide) rfl kT_X0_unpaidOfAll kl_X10_229 kim_X0_unpaidOfAll kse_X0_unpaidOfAll rfl rfl (i := 14) rfl rfl ⟨by decide, by decide⟩ gk0 (Nat.le_of_ble_eq_true rfl) (gdec dt_X10_toldOf 32 rfl) rfl (st2 := [.int q9]) (w2 := w) rfl (gput_sub _ _) ?_
    cases hf
    exact g_iret C rfl (gdec dt_X10_toldOf 33 rfl)
  replace hf := (if_neg hc8).symm.trans hf
  by_cases hc10 : x1 = (8 : Int32)
  · have hf := (if_pos hc10).symm.trans hf
    refine g_tableIn C (tgt := 120) (off := 119) (gdec dt_X10_toldOf 1 rfl) (by rw [hc10]; decide) (by rw [hc10]; decide) (by rw [hc10]; decide) (by decide) ?_
    refine g_aload_n C (gdec dt_X10_toldOf 34 rfl) (i := 0) rfl rfl ?_
    refine g_getr C (j := 14) kf_X10_26 rfl rfl (gdec dt_X10_toldOf 35 rfl) ?_
    obtain ⟨q11, hq11, hf⟩ := Option.bind_eq_some_iff.mp hf
    refine g_invVs e_shX_shB_14 [] [] C (c_X0_paidOfAll l D cA _ (gInj_sub em_e_shX_shB_14 (gCi C)) (gsub w e_shX_shB_14)  q11 hq11) em_e_shX_shB_14 (by decide) rfl kT_X0_paidOfAll kl_X10_233 kim_X0_paidOfAll kse_X0_paidOfAll rfl rfl (i := 14) rfl rfl ⟨by decide, by decide⟩ gk0 (Nat.le_of_ble_eq_true rfl) (gdec dt_X10_toldOf 36 rfl) rfl (st2 := [.int q11]) (w2 := w) rfl (gput_sub _ _) ?_
    cases hf
    exact g_iret C rfl (gdec dt_X10_toldOf 37 rfl)
  replace hf := (if_neg hc10).symm.trans hf
  by_cases hc12 : x1 = (9 : Int32)
  · have hf := (if_pos hc12).symm.trans hf
    refine g_tableIn C (tgt := 128) (off := 127) (gdec dt_X10_toldOf 1 rfl) (by rw [hc12]; decide) (by rw [hc12]; decide) (by rw [hc12]; decide) (by decide) ?_
    refine g_aload_n C (gdec dt_X10_toldOf 38 rfl) (i := 0) rfl rfl ?_
    refine g_getr C (j := 14) kf_X10_26 rfl rfl (gdec dt_X10_toldOf 39 rfl) ?_
    obtain ⟨q13, hq13, hf⟩ := Option.bind_eq_some_iff.mp hf
    refine g_invVs e_shX_shB_14 [] [] C (c_X0_greyOfAll l D cA _ (gInj_sub em_e_shX_shB_14 (gCi C)) (gsub w e_shX_shB_14)  q13 hq13) em_e_shX_shB_14 (by decide) rfl kT_X0_greyOfAll kl_X10_236 kim_X0_greyOfAll kse_X0_greyOfAll rfl rfl (i := 14) rfl rfl ⟨by decide, by decide⟩ gk0 (Nat.le_of_ble_eq_true rfl) (gdec dt_X10_toldOf 40 rfl) rfl (st2 := [.int q13]) (w2 := w) rfl (gput_sub _ _) ?_
    cases hf
    exact g_iret C rfl (gdec dt_X10_toldOf 41 rfl)
  replace hf := (if_neg hc12).symm.trans hf
  refine g_tableOut C (tgt := 136) (gdec dt_X10_toldOf 1 rfl) (gtsw_out (fun j hj => ?_)) (by decide) ?_
  · match j, hj with
    | 0, _ => exact lv_neT hc1 (by decide)
    | 1, _ => exact lv_neT hc2 (by decide)
    | 2, _ => exact lv_neT hc3 (by decide)
    | 3, _ => exact lv_neT hc4 (by decide)
    | 4, _ => exact lv_neT hc5 (by decide)
    | 5, _ => exact lv_neT hc6 (by decide)
    | 6, _ => exact lv_neT hc7 (by decide)
    | 7, _ => exact lv_neT hc8 (by decide)
    | 8, _ => exact lv_neT hc10 (by decide)
    | 9, _ => exact lv_neT hc12 (by decide)
    | j + 10, hj => exact absurd hj (by simp)
  refine g_aload_n C (gdec dt_X10_toldOf 42 rfl) (i := 0) rfl rfl ?_
  refine g_getr C (j := 14) kf_X10_26 rfl rfl (gdec dt_X10_toldOf 43 rfl) ?_
  refine g_sipush C (gdec dt_X10_toldOf 44 rfl) sc_255 ?_
  obtain ⟨q14, hq14, hf⟩ := Option.bind_eq_some_iff.mp hf
  refine g_invVs e_shX_shB_14 [.int (255 : Int32)] [] C (c_X0_sumOf l D cA _ (gInj_sub em_e_shX_shB_14 (gCi C)) (gsub w e_shX_shB_14) (255 : Int32) q14 hq14) em_e_shX_shB_14 (by decide) rfl kT_X0_sumOf kl_X10_239 kim_X0_sumOf kse_X0_sumOf rfl rfl (i := 14) rfl rfl ⟨by decide, by decide⟩ gk0 (Nat.le_of_ble_eq_true rfl) (gdec dt_X10_toldOf 45 rfl) rfl (st2 := [.int q14]) (w2 := w) rfl (gput_sub _ _) ?_
  cases hf
  exact g_iret C rfl (gdec dt_X10_toldOf 46 rfl)
set_option maxHeartbeats 4000000 in
set_option maxRecDepth 100000 in
theorem c_X10_told (l : Launch) (D : va_G) (cA ad : Nat → Nat) (hin : gInj ad shX.length) (w : GW) (x1 : Int32) (q : (Int32 × GW)) (hf : F_X10_told x1 w = some q) : gMet l yX10_told cX10_told 2 (some .int) 4 184 D cA ad shX [.ref 0, .int x1] w (some (.int q.1)) q.2 := by
  refine g_entry (by decide) hin (Nat.le_of_ble_eq_true rfl) ?_
  intro p e s m args below meth c C
  unfold F_X10_told at hf
  show gW p l e (gRm 4 184) s m args below meth c D cA ad shX 2 0 0 (gQ below D cA ad shX (some (.int q.1)) q.2 args s) 0 [(0, .ref 0), (1, .int x1)] [] w
  refine g_iload_n C (gdec dt_X10_told 0 rfl) (i := 1) rfl rfl ?_
  refine g_iconst C (gdec dt_X10_told 1 rfl) ic_0 ?_
  refine g_bipush C (gdec dt_X10_told 2 rfl) bc_10 ?_
  obtain ⟨q1, hq1, hf⟩ := Option.bind_eq_some_iff.mp hf
  refine g_invSs e_nil [.int x1, .int (0 : Int32), .int (10 : Int32)] [] C (c_X10_between l D cA _ (gInj_sub em_e_nil_shX (gCi C)) (gsub w e_nil) x1 (0 : Int32) (10 : Int32) q1 hq1) em_e_nil_shX (by decide) rfl kT_X10_between kl_X10_126 kst_X10_between rfl rfl ⟨by decide, by decide⟩ gk0 (Nat.le_of_ble_eq_true rfl) (gdec dt_X10_told 3 rfl) rfl (st2 := [.int q1]) (w2 := w) rfl (gput_sub _ _) ?_
  refine g_if_ne C (tgt := 16) (gdec dt_X10_told 4 rfl) (by decide) (fun hc2 => ?_) (fun hc2 => ?_)
  · have hf := (if_neg hc2).symm.trans hf
    refine g_aload_n C (gdec dt_X10_told 9 rfl) (i := 0) rfl rfl ?_
    refine g_aload_n C (gdec dt_X10_told 10 rfl) (i := 0) rfl rfl ?_
    refine g_iload_n C (gdec dt_X10_told 11 rfl) (i := 1) rfl rfl ?_
    obtain ⟨q3, hq3, hf⟩ := Option.bind_eq_some_iff.mp hf
    refine g_invV [.int x1] [.ref 0] C (c_X10_toldOf l D cA _ (gCi C) w x1 q3 hq3) kT_X10_toldOf kl_X10_208 kim_X10_toldOf kse_X10_toldOf rfl rfl (i := 0) rfl rfl ⟨by decide, by decide⟩ gk0 (Nat.le_of_ble_eq_true rfl) (gdec dt_X10_told 12 rfl) rfl (st2 := [.int q3, .ref 0]) rfl ?_
    obtain ⟨q4, hq4, hf⟩ := Option.bind_eq_some_iff.mp hf
    refine g_invV [.int q3] [] C (c_X10_answer l D cA _ (gCi C) w q3 q4 hq4) kT_X10_answer kl_X10_114 kim_X10_answer kse_X10_answer rfl rfl (i := 0) rfl rfl ⟨by decide, by decide⟩ gk0 (Nat.le_of_ble_eq_true rfl) (gdec dt_X10_told 13 rfl) rfl (st2 := [.int q4.1]) rfl ?_
    cases hf
    exact g_iret C rfl (gdec dt_X10_told 14 rfl)
  · have hf := (if_pos hc2).symm.trans hf
    refine g_aload_n C (gdec dt_X10_told 5 rfl) (i := 0) rfl rfl ?_
    refine g_iconst C (gdec dt_X10_told 6 rfl) ic_1 ?_
    obtain ⟨q5, hq5, hf⟩ := Option.bind_eq_some_iff.mp hf
    refine g_invV [.int (1 : Int32)] [] C (c_X10_refuse l D cA _ (gCi C) w (1 : Int32) q5 hq5) kT_X10_refuse kl_X10_110 kim_X10_refuse kse_X10_refuse rfl rfl (i := 0) rfl rfl ⟨by decide, by decide⟩ gk0 (Nat.le_of_ble_eq_true rfl) (gdec dt_X10_told 7 rfl) rfl (st2 := [.int q5.1]) rfl ?_
    cases hf
    exact g_iret C rfl (gdec dt_X10_told 8 rfl)
set_option maxHeartbeats 4000000 in
set_option maxRecDepth 100000 in
theorem L_X10_corner_20 {p : Program} {l : Launch} {e : Env} {s : State} {m : MethodId} {args : Array Value} {below : List Frame} {meth : Method} {c : Code} {D : va_G} {cA ad : Nat → Nat} {q : (Int32 × GW)} (C : gC p c cX10_corner meth m s args 3 (some .int) RX10 D cA ad shX) (w : GW) (hf : f_X10_corner_20 w = some q) : gW p l e (gRm 3 163) s m args below meth c D cA ad shX 3 0 0 (gQ below D cA ad shX (some (.int q.1)) q.2 args s) 20 [(0, .ref 0)] [] w := by
  unfold f_X10_corner_20 at hf
  refine g_aload_n C (gdec dt_X10_corner 10 rfl) (i := 0) rfl rfl ?_
  refine g_iconst C (gdec dt_X10_corner 11 rfl) ic_1 ?_
  obtain ⟨q10, hq10, hf⟩ := Option.bind_eq_some_iff.mp hf
  refine g_invV [.int (1 : Int32)] [] C (c_X10_refuse l D cA _ (gCi C) w (1 : Int32) q10 hq10) kT_X10_refuse kl_X10_110 kim_X10_refuse kse_X10_refuse rfl rfl (i := 0) rfl rfl ⟨by decide, by decide⟩ gk0 (Nat.le_of_ble_eq_true rfl) (gdec dt_X10_corner 12 rfl) rfl (st2 := [.int q10.1]) rfl ?_
  cases hf
  exact g_iret C rfl (gdec dt_X10_corner 13 rfl)
set_option maxHeartbeats 4000000 in
set_option maxRecDepth 100000 in
theorem c_X10_corner (l : Launch) (D : va_G) (cA ad : Nat → Nat) (hin : gInj ad shX.length) (w : GW) (x1 : Int32) (x2 : Int32) (q : (Int32 × GW)) (hf : F_X10_corner x1 x2 w = some q) : gMet l yX10_corner cX10_corner 3 (some .int) 3 163 D cA ad shX [.ref 0, .int x1, .int x2] w (some (.int q.1)) q.2 := by
  refine g_entry (by decide) hin (Nat.le_of_ble_eq_true rfl) ?_
  intro p e s m args below meth c C
  unfold F_X10_corner at hf
  show gW p l e (gRm 3 163) s m args below meth c D cA ad shX 3 0 0 (gQ below D cA ad shX (some (.int q.1)) q.2 args s) 0 [(0, .ref 0), (1, .int x1), (2, .int x2)] [] w
  refine g_aload_n C (gdec dt_X10_corner 0 rfl) (i := 0) rfl rfl ?_
  refine g_getr C (j := 14) kf_X10_26 rfl rfl (gdec dt_X10_corner 1 rfl) ?_
  refine g_iload_n C (gdec dt_X10_corner 2 rfl) (i := 1) rfl rfl ?_
  obtain ⟨q1, hq1, hf⟩ := Option.bind_eq_some_iff.mp hf
  refine g_invVs e_shX_shB_14 [.int x1] [] C (c_X0_hasCorner l D cA _ (gInj_sub em_e_shX_shB_14 (gCi C)) (gsub w e_shX_shB_14) x1 q1 hq1) em_e_shX_shB_14 (by decide) rfl kT_X0_hasCorner kl_X10_242 kim_X0_hasCorner kse_X0_hasCorner rfl rfl (i := 14) rfl rfl ⟨by decide, by decide⟩ gk0 (Nat.le_of_ble_eq_true rfl) (gdec dt_X10_corner 3 rfl) rfl (st2 := [.int q1]) (w2 := w) rfl (gput_sub _ _) ?_
  refine g_if_eq C (tgt := 20) (gdec dt_X10_corner 4 rfl) (by decide) (fun hc2 => ?_) (fun hc2 => ?_)
  · have hf := (if_pos hc2).symm.trans hf
    refine g_sub [0] (lo2 := [(0, .ref 0)]) rfl ?_
    exact L_X10_corner_20 C w hf
  · have hf := (if_neg hc2).symm.trans hf
    refine g_iload_n C (gdec dt_X10_corner 5 rfl) (i := 2) rfl rfl ?_
    refine g_iconst C (gdec dt_X10_corner 6 rfl) ic_0 ?_
    refine g_iconst C (gdec dt_X10_corner 7 rfl) ic_1 ?_
    obtain ⟨q3, hq3, hf⟩ := Option.bind_eq_some_iff.mp hf
    refine g_invSs e_nil [.int x2, .int (0 : Int32), .int (1 : Int32)] [] C (c_X10_between l D cA _ (gInj_sub em_e_nil_shX (gCi C)) (gsub w e_nil) x2 (0 : Int32) (1 : Int32) q3 hq3) em_e_nil_shX (by decide) rfl kT_X10_between kl_X10_126 kst_X10_between rfl rfl ⟨by decide, by decide⟩ gk0 (Nat.le_of_ble_eq_true rfl) (gdec dt_X10_corner 8 rfl) rfl (st2 := [.int q3]) (w2 := w) rfl (gput_sub _ _) ?_
    refine g_if_ne C (tgt := 26) (gdec dt_X10_corner 9 rfl) (by decide) (fun hc4 => ?_) (fun hc4 => ?_)
    · have hf := (if_neg hc4).symm.trans hf
      refine g_iload_n C (gdec dt_X10_corner 14 rfl) (i := 2) rfl rfl ?_
      refine g_if_ne C (tgt := 44) (gdec dt_X10_corner 15 rfl) (by decide) (fun hc5 => ?_) (fun hc5 => ?_)
      · have hf := (if_neg hc5).symm.trans hf
        refine g_aload_n C (gdec dt_X10_corner 24 rfl) (i := 0) rfl rfl ?_
        refine g_aload_n C (gdec dt_X10_corner 25 rfl) (i := 0) rfl rfl ?_
        refine g_getr C (j := 14) kf_X10_26 rfl rfl (gdec dt_X10_corner 26 rfl) ?_
        refine g_iload_n C (gdec dt_X10_corner 27 rfl) (i := 1) rfl rfl ?_
        obtain ⟨q6, hq6, hf⟩ := Option.bind_eq_some_iff.mp hf
        refine g_invVs e_shX_shB_14 [.int x1] [.ref 0] C (c_X0_sitterIn l D cA _ (gInj_sub em_e_shX_shB_14 (gCi C)) (gsub w e_shX_shB_14) x1 q6 hq6) em_e_shX_shB_14 (by decide) rfl kT_X0_sitterIn kl_X10_249 kim_X0_sitterIn kse_X0_sitterIn rfl rfl (i := 14) rfl rfl ⟨by decide, by decide⟩ gk0 (Nat.le_of_ble_eq_true rfl) (gdec dt_X10_corner 28 rfl) rfl (st2 := [.int q6, .ref 0]) (w2 := w) rfl (gput_sub _ _) ?_
        refine g_bipush C (gdec dt_X10_corner 29 rfl) bc_6 ?_
        obtain ⟨q7, hq7, hf⟩ := Option.bind_eq_some_iff.mp hf
        refine g_invV [.int q6, .int (6 : Int32)] [] C (c_X10_answerOrRefuse l D cA _ (gCi C) w q6 (6 : Int32) q7 hq7) kT_X10_answerOrRefuse kl_X10_252 kim_X10_answerOrRefuse kse_X10_answerOrRefuse rfl rfl (i := 0) rfl rfl ⟨by decide, by decide⟩ gk0 (Nat.le_of_ble_eq_true rfl) (gdec dt_X10_corner 30 rfl) rfl (st2 := [.int q7.1]) rfl ?_
        cases hf
        exact g_iret C rfl (gdec dt_X10_corner 31 rfl)
      · have hf := (if_pos hc5).symm.trans hf
        refine g_aload_n C (gdec dt_X10_corner 16 rfl) (i := 0) rfl rfl ?_
        refine g_aload_n C (gdec dt_X10_corner 17 rfl) (i := 0) rfl rfl ?_
        refine g_getr C (j := 14) kf_X10_26 rfl rfl (gdec dt_X10_corner 18 rfl) ?_
        refine g_getr C (j := 15) kf_X10_245 rfl rfl (gdec dt_X10_corner 19 rfl) ?_
        refine g_iload_n C (gdec dt_X10_corner 20 rfl) (i := 1) rfl rfl ?_
        obtain ⟨hg8, hf⟩ := gif hf
        refine g_iald C (i := 15) rfl hg8 rfl (gdec dt_X10_corner 21 rfl) ?_
        obtain ⟨q9, hq9, hf⟩ := Option.bind_eq_some_iff.mp hf
        refine g_invV [.int (w.1 15 x1.toNatClampNeg)] [] C (c_X10_answer l D cA _ (gCi C) w (w.1 15 x1.toNatClampNeg) q9 hq9) kT_X10_answer kl_X10_114 kim_X10_answer kse_X10_answer rfl rfl (i := 0) rfl rfl ⟨by decide, by decide⟩ gk0 (Nat.le_of_ble_eq_true rfl) (gdec dt_X10_corner 22 rfl) rfl (st2 := [.int q9.1]) rfl ?_
        cases hf
        exact g_iret C rfl (gdec dt_X10_corner 23 rfl)
    · have hf := (if_pos hc4).symm.trans hf
      refine g_sub [0] (lo2 := [(0, .ref 0)]) rfl ?_
      exact L_X10_corner_20 C w hf
set_option maxHeartbeats 4000000 in
set_option maxRecDepth 100000 in
theorem L_X10_rank_20 {p : Program} {l : Launch} {e : Env} {s : State} {m : MethodId} {args : Array Value} {below : List Frame} {meth : Method} {c : Code} {D : va_G} {cA ad : Nat → Nat} {q : (Int32 × GW)} (C : gC p c cX10_rank meth m s args 3 (some .int) RX10 D cA ad shX) (w : GW) (hf : f_X10_rank_20 w = some q) : gW p l e (gRm 4 185) s m args below meth c D cA ad shX 3 0 0 (gQ below D cA ad shX (some (.int q.1)) q.2 args s) 20 [(0, .ref 0)] [] w := by
  unfold f_X10_rank_20 at hf
  refine g_aload_n C (gdec dt_X10_rank 10 rfl) (i := 0) rfl rfl ?_
  refine g_iconst C (gdec dt_X10_rank 11 rfl) ic_1 ?_
  obtain ⟨q13, hq13, hf⟩ := Option.bind_eq_some_iff.mp hf
  refine g_invV [.int (1 : Int32)] [] C (c_X10_refuse l D cA _ (gCi C) w (1 : Int32) q13 hq13) kT_X10_refuse kl_X10_110 kim_X10_refuse kse_X10_refuse rfl rfl (i := 0) rfl rfl ⟨by decide, by decide⟩ gk0 (Nat.le_of_ble_eq_true rfl) (gdec dt_X10_rank 12 rfl) rfl (st2 := [.int q13.1]) rfl ?_
  cases hf
  exact g_iret C rfl (gdec dt_X10_rank 13 rfl)
set_option maxHeartbeats 4000000 in
set_option maxRecDepth 100000 in
theorem c_X10_rank (l : Launch) (D : va_G) (cA ad : Nat → Nat) (hin : gInj ad shX.length) (w : GW) (x1 : Int32) (x2 : Int32) (q : (Int32 × GW)) (hf : F_X10_rank x1 x2 w = some q) : gMet l yX10_rank cX10_rank 3 (some .int) 4 185 D cA ad shX [.ref 0, .int x1, .int x2] w (some (.int q.1)) q.2 := by
  refine g_entry (by decide) hin (Nat.le_of_ble_eq_true rfl) ?_
  intro p e s m args below meth c C
  unfold F_X10_rank at hf
  show gW p l e (gRm 4 185) s m args below meth c D cA ad shX 3 0 0 (gQ below D cA ad shX (some (.int q.1)) q.2 args s) 0 [(0, .ref 0), (1, .int x1), (2, .int x2)] [] w
  refine g_aload_n C (gdec dt_X10_rank 0 rfl) (i := 0) rfl rfl ?_
  refine g_getr C (j := 14) kf_X10_26 rfl rfl (gdec dt_X10_rank 1 rfl) ?_
  refine g_iload_n C (gdec dt_X10_rank 2 rfl) (i := 1) rfl rfl ?_
  obtain ⟨q1, hq1, hf⟩ := Option.bind_eq_some_iff.mp hf
  refine g_invVs e_shX_shB_14 [.int x1] [] C (c_X0_hasRank l D cA _ (gInj_sub em_e_shX_shB_14 (gCi C)) (gsub w e_shX_shB_14) x1 q1 hq1) em_e_shX_shB_14 (by decide) rfl kT_X0_hasRank kl_X10_255 kim_X0_hasRank kse_X0_hasRank rfl rfl (i := 14) rfl rfl ⟨by decide, by decide⟩ gk0 (Nat.le_of_ble_eq_true rfl) (gdec dt_X10_rank 3 rfl) rfl (st2 := [.int q1]) (w2 := w) rfl (gput_sub _ _) ?_
  refine g_if_eq C (tgt := 20) (gdec dt_X10_rank 4 rfl) (by decide) (fun hc2 => ?_) (fun hc2 => ?_)
  · have hf := (if_pos hc2).symm.trans hf
    refine g_sub [0] (lo2 := [(0, .ref 0)]) rfl ?_
    exact L_X10_rank_20 C w hf
  · have hf := (if_neg hc2).symm.trans hf
    refine g_iload_n C (gdec dt_X10_rank 5 rfl) (i := 2) rfl rfl ?_
    refine g_iconst C (gdec dt_X10_rank 6 rfl) ic_0 ?_
    refine g_iconst C (gdec dt_X10_rank 7 rfl) ic_2 ?_
    obtain ⟨q3, hq3, hf⟩ := Option.bind_eq_some_iff.mp hf
    refine g_invSs e_nil [.int x2, .int (0 : Int32), .int (2 : Int32)] [] C (c_X10_between l D cA _ (gInj_sub em_e_nil_shX (gCi C)) (gsub w e_nil) x2 (0 : Int32) (2 : Int32) q3 hq3) em_e_nil_shX (by decide) rfl kT_X10_between kl_X10_126 kst_X10_between rfl rfl ⟨by decide, by decide⟩ gk0 (Nat.le_of_ble_eq_true rfl) (gdec dt_X10_rank 8 rfl) rfl (st2 := [.int q3]) (w2 := w) rfl (gput_sub _ _) ?_
    refine g_if_ne C (tgt := 26) (gdec dt_X10_rank 9 rfl) (by decide) (fun hc4 => ?_) (fun hc4 => ?_)
    · have hf := (if_neg hc4).symm.trans hf
      refine g_iload_n C (gdec dt_X10_rank 14 rfl) (i := 2) rfl rfl ?_
      by_cases hc5 : x2 = (0 : Int32)
      · have hf := (if_pos hc5).symm.trans hf
        refine g_lookup C (tgt := 52) (off := 25) (gdec dt_X10_rank 15 rfl) (by decide) (by rw [hc5]; decide) (by decide) ?_
        refine g_aload_n C (gdec dt_X10_rank 16 rfl) (i := 0) rfl rfl ?_
        refine g_aload_n C (gdec dt_X10_rank 17 rfl) (i := 0) rfl rfl ?_
        refine g_getr C (j := 14) kf_X10_26 rfl rfl (gdec dt_X10_rank 18 rfl) ?_
        refine g_getr C (j := 16) kf_X10_258 rfl rfl (gdec dt_X10_rank 19 rfl) ?_
        refine g_iload_n C (gdec dt_X10_rank 20 rfl) (i := 1) rfl rfl ?_
        obtain ⟨hg6, hf⟩ := gif hf
        refine g_iald C (i := 16) rfl hg6 rfl (gdec dt_X10_rank 21 rfl) ?_
        obtain ⟨q7, hq7, hf⟩ := Option.bind_eq_some_iff.mp hf
        refine g_invV [.int (w.1 16 x1.toNatClampNeg)] [] C (c_X10_answer l D cA _ (gCi C) w (w.1 16 x1.toNatClampNeg) q7 hq7) kT_X10_answer kl_X10_114 kim_X10_answer kse_X10_answer rfl rfl (i := 0) rfl rfl ⟨by decide, by decide⟩ gk0 (Nat.le_of_ble_eq_true rfl) (gdec dt_X10_rank 22 rfl) rfl (st2 := [.int q7.1]) rfl ?_
        cases hf
        exact g_iret C rfl (gdec dt_X10_rank 23 rfl)
      replace hf := (if_neg hc5).symm.trans hf
      by_cases hc8 : x2 = (1 : Int32)
      · have hf := (if_pos hc8).symm.trans hf
        refine g_lookup C (tgt := 66) (off := 39) (gdec dt_X10_rank 15 rfl) (by decide) (by rw [hc8]; decide) (by decide) ?_
        refine g_aload_n C (gdec dt_X10_rank 24 rfl) (i := 0) rfl rfl ?_
        refine g_aload_n C (gdec dt_X10_rank 25 rfl) (i := 0) rfl rfl ?_
        refine g_getr C (j := 14) kf_X10_26 rfl rfl (gdec dt_X10_rank 26 rfl) ?_
        refine g_getr C (j := 17) kf_X10_260 rfl rfl (gdec dt_X10_rank 27 rfl) ?_
        refine g_iload_n C (gdec dt_X10_rank 28 rfl) (i := 1) rfl rfl ?_
        obtain ⟨hg9, hf⟩ := gif hf
        refine g_iald C (i := 17) rfl hg9 rfl (gdec dt_X10_rank 29 rfl) ?_
        obtain ⟨q10, hq10, hf⟩ := Option.bind_eq_some_iff.mp hf
        refine g_invV [.int (w.1 17 x1.toNatClampNeg)] [] C (c_X10_answer l D cA _ (gCi C) w (w.1 17 x1.toNatClampNeg) q10 hq10) kT_X10_answer kl_X10_114 kim_X10_answer kse_X10_answer rfl rfl (i := 0) rfl rfl ⟨by decide, by decide⟩ gk0 (Nat.le_of_ble_eq_true rfl) (gdec dt_X10_rank 30 rfl) rfl (st2 := [.int q10.1]) rfl ?_
        cases hf
        exact g_iret C rfl (gdec dt_X10_rank 31 rfl)
      replace hf := (if_neg hc8).symm.trans hf
      refine g_lookup C (tgt := 80) (off := 53) (gdec dt_X10_rank 15 rfl) (by decide) ?_ (by decide) ?_
      · show Op.lookupswitch.offset [(0, 25), (1, 39)] (53) _ = _
        rw [lv_osw hc5 (by decide), lv_osw hc8 (by decide)]
        rfl
      refine g_aload_n C (gdec dt_X10_rank 32 rfl) (i := 0) rfl rfl ?_
      refine g_aload_n C (gdec dt_X10_rank 33 rfl) (i := 0) rfl rfl ?_
      refine g_getr C (j := 14) kf_X10_26 rfl rfl (gdec dt_X10_rank 34 rfl) ?_
      refine g_iload_n C (gdec dt_X10_rank 35 rfl) (i := 1) rfl rfl ?_
      obtain ⟨q11, hq11, hf⟩ := Option.bind_eq_some_iff.mp hf
      refine g_invVs e_shX_shB_14 [.int x1] [.ref 0] C (c_X0_clerksOfRank l D cA _ (gInj_sub em_e_shX_shB_14 (gCi C)) (gsub w e_shX_shB_14) x1 q11 hq11) em_e_shX_shB_14 (by decide) rfl kT_X0_clerksOfRank kl_X10_263 kim_X0_clerksOfRank kse_X0_clerksOfRank rfl rfl (i := 14) rfl rfl ⟨by decide, by decide⟩ gk0 (Nat.le_of_ble_eq_true rfl) (gdec dt_X10_rank 36 rfl) rfl (st2 := [.int q11, .ref 0]) (w2 := w) rfl (gput_sub _ _) ?_
      obtain ⟨q12, hq12, hf⟩ := Option.bind_eq_some_iff.mp hf
      refine g_invV [.int q11] [] C (c_X10_answer l D cA _ (gCi C) w q11 q12 hq12) kT_X10_answer kl_X10_114 kim_X10_answer kse_X10_answer rfl rfl (i := 0) rfl rfl ⟨by decide, by decide⟩ gk0 (Nat.le_of_ble_eq_true rfl) (gdec dt_X10_rank 37 rfl) rfl (st2 := [.int q12.1]) rfl ?_
      cases hf
      exact g_iret C rfl (gdec dt_X10_rank 38 rfl)
    · have hf := (if_pos hc4).symm.trans hf
      refine g_sub [0] (lo2 := [(0, .ref 0)]) rfl ?_
      exact L_X10_rank_20 C w hf
set_option maxHeartbeats 4000000 in
set_option maxRecDepth 100000 in
theorem L_X10_clerk_21 {p : Program} {l : Launch} {e : Env} {s : State} {m : MethodId} {args : Array Value} {below : List Frame} {meth : Method} {c : Code} {D : va_G} {cA ad : Nat → Nat} {q : (Int32 × GW)} (C : gC p c cX10_clerk meth m s args 3 (some .int) RX10 D cA ad shX) (w : GW) (hf : f_X10_clerk_21 w = some q) : gW p l e (gRm 3 162) s m args below meth c D cA ad shX 3 0 0 (gQ below D cA ad shX (some (.int q.1)) q.2 args s) 21 [(0, .ref 0)] [] w := by
  unfold f_X10_clerk_21 at hf
  refine g_aload_n C (gdec dt_X10_clerk 10 rfl) (i := 0) rfl rfl ?_
  refine g_iconst C (gdec dt_X10_clerk 11 rfl) ic_1 ?_
  obtain ⟨q25, hq25, hf⟩ := Option.bind_eq_some_iff.mp hf
  refine g_invV [.int (1 : Int32)] [] C (c_X10_refuse l D cA _ (gCi C) w (1 : Int32) q25 hq25) kT_X10_refuse kl_X10_110 kim_X10_refuse kse_X10_refuse rfl rfl (i := 0) rfl rfl ⟨by decide, by decide⟩ gk0 (Nat.le_of_ble_eq_true rfl) (gdec dt_X10_clerk 12 rfl) rfl (st2 := [.int q25.1]) rfl ?_
  cases hf
  exact g_iret C rfl (gdec dt_X10_clerk 13 rfl)
set_option maxHeartbeats 4000000 in
set_option maxRecDepth 100000 in
theorem c_X10_clerk (l : Launch) (D : va_G) (cA ad : Nat → Nat) (hin : gInj ad shX.length) (w : GW) (x1 : Int32) (x2 : Int32) (q : (Int32 × GW)) (hf : F_X10_clerk x1 x2 w = some q) : gMet l yX10_clerk cX10_clerk 3 (some .int) 3 162 D cA ad shX [.ref 0, .int x1, .int x2] w (some (.int q.1)) q.2 := by
  refine g_entry (by decide) hin (Nat.le_of_ble_eq_true rfl) ?_
  intro p e s m args below meth c C
  unfold F_X10_clerk at hf
  show gW p l e (gRm 3 162) s m args below meth c D cA ad shX 3 0 0 (gQ below D cA ad shX (some (.int q.1)) q.2 args s) 0 [(0, .ref 0), (1, .int x1), (2, .int x2)] [] w
  refine g_aload_n C (gdec dt_X10_clerk 0 rfl) (i := 0) rfl rfl ?_
  refine g_getr C (j := 14) kf_X10_26 rfl rfl (gdec dt_X10_clerk 1 rfl) ?_
  refine g_iload_n C (gdec dt_X10_clerk 2 rfl) (i := 1) rfl rfl ?_
  obtain ⟨q1, hq1, hf⟩ := Option.bind_eq_some_iff.mp hf
  refine g_invVs e_shX_shB_14 [.int x1] [] C (c_X0_hasClerk l D cA _ (gInj_sub em_e_shX_shB_14 (gCi C)) (gsub w e_shX_shB_14) x1 q1 hq1) em_e_shX_shB_14 (by decide) rfl kT_X0_hasClerk kl_X10_266 kim_X0_hasClerk kse_X0_hasClerk rfl rfl (i := 14) rfl rfl ⟨by decide, by decide⟩ gk0 (Nat.le_of_ble_eq_true rfl) (gdec dt_X10_clerk 3 rfl) rfl (st2 := [.int q1]) (w2 := w) rfl (gput_sub _ _) ?_
  refine g_if_eq C (tgt := 21) (gdec dt_X10_clerk 4 rfl) (by decide) (fun hc2 => ?_) (fun hc2 => ?_)
  · have hf := (if_pos hc2).symm.trans hf
    refine g_sub [0] (lo2 := [(0, .ref 0)]) rfl ?_
    exact L_X10_clerk_21 C w hf
  · have hf := (if_neg hc2).symm.trans hf
    refine g_iload_n C (gdec dt_X10_clerk 5 rfl) (i := 2) rfl rfl ?_
    refine g_iconst C (gdec dt_X10_clerk 6 rfl) ic_0 ?_
    refine g_bipush C (gdec dt_X10_clerk 7 rfl) bc_6 ?_
    obtain ⟨q3, hq3, hf⟩ := Option.bind_eq_some_iff.mp hf
    refine g_invSs e_nil [.int x2, .int (0 : Int32), .int (6 : Int32)] [] C (c_X10_between l D cA _ (gInj_sub em_e_nil_shX (gCi C)) (gsub w e_nil) x2 (0 : Int32) (6 : Int32) q3 hq3) em_e_nil_shX (by decide) rfl kT_X10_between kl_X10_126 kst_X10_between rfl rfl ⟨by decide, by decide⟩ gk0 (Nat.le_of_ble_eq_true rfl) (gdec dt_X10_clerk 8 rfl) rfl (st2 := [.int q3]) (w2 := w) rfl (gput_sub _ _) ?_
    refine g_if_ne C (tgt := 27) (gdec dt_X10_clerk 9 rfl) (by decide) (fun hc4 => ?_) (fun hc4 => ?_)
    · have hf := (if_neg hc4).symm.trans hf
      refine g_iload_n C (gdec dt_X10_clerk 14 rfl) (i := 2) rfl rfl ?_
      by_cases hc5 : x2 = (0 : Int32)
      · have hf := (if_pos hc5).symm.trans hf
        refine g_tableIn C (tgt := 68) (off := 40) (gdec dt_X10_clerk 15 rfl) (by rw [hc5]; decide) (by rw [hc5]; decide) (by rw [hc5]; decide) (by decide) ?_
        refine g_aload_n C (gdec dt_X10_clerk 16 rfl) (i := 0) rfl rfl ?_
        refine g_aload_n C (gdec dt_X10_clerk 17 rfl) (i := 0) rfl rfl ?_
        refine g_getr C (j := 14) kf_X10_26 rfl rfl (gdec dt_X10_clerk 18 rfl) ?_
        refine g_getr C (j := 19) kf_X10_269 rfl rfl (gdec dt_X10_clerk 19 rfl) ?_
        refine g_iload_n C (gdec dt_X10_clerk 20 rfl) (i := 1) rfl rfl ?_
        obtain ⟨hg6, hf⟩ := gif hf
        refine g_iald C (i := 19) rfl hg6 rfl (gdec dt_X10_clerk 21 rfl) ?_
        obtain ⟨q7, hq7, hf⟩ := Option.bind_eq_some_iff.mp hf
        refine g_invV [.int (w.1 19 x1.toNatClampNeg)] [] C (c_X10_answer l D cA _ (gCi C) w (w.1 19 x1.toNatClampNeg) q7 hq7) kT_X10_answer kl_X10_114 kim_X10_answer kse_X10_answer rfl rfl (i := 0) rfl rfl ⟨by decide, by decide⟩ gk0 (Nat.le_of_ble_eq_true rfl) (gdec dt_X10_clerk 22 rfl) rfl (st2 := [.int q7.1]) rfl ?_
        cases hf
        exact g_iret C rfl (gdec dt_X10_clerk 23 rfl)
      replace hf := (if_neg hc5).symm.trans hf
      by_cases hc8 : x2 = (1 : Int32)
      · have hf := (if_pos hc8).symm.trans hf
        refine g_tableIn C (tgt := 82) (off := 54) (gdec dt_X10_clerk 15 rfl) (by rw [hc8]; decide) (by rw [hc8]; decide) (by rw [hc8]; decide) (by decide) ?_
        refine g_aload_n C (gdec dt_X10_clerk 24 rfl) (i := 0) rfl rfl ?_
        refine g_aload_n C (gdec dt_X10_clerk 25 rfl) (i := 0) rfl rfl ?_
        refine g_getr C (j := 14) kf_X10_26 rfl rfl (gdec dt_X10_clerk 26 rfl) ?_
        refine g_getr C (j := 20) kf_X10_272 rfl rfl (gdec dt_X10_clerk 27 rfl) ?_
        refine g_iload_n C (gdec dt_X10_clerk 28 rfl) (i := 1) rfl rfl ?_
        obtain ⟨hg9, hf⟩ := gif hf
        refine g_iald C (i := 20) rfl hg9 rfl (gdec dt_X10_clerk 29 rfl) ?_
        obtain ⟨q10, hq10, hf⟩ := Option.bind_eq_some_iff.mp hf
        refine g_invV [.int (w.1 20 x1.toNatClampNeg)] [] C (c_X10_answer l D cA _ (gCi C) w (w.1 20 x1.toNatClampNeg) q10 hq10) kT_X10_answer kl_X10_114 kim_X10_answer kse_X10_answer rfl rfl (i := 0) rfl rfl ⟨by decide, by decide⟩ gk0 (Nat.le_of_ble_eq_true rfl) (gdec dt_X10_clerk 30 rfl) rfl (st2 := [.int q10.1]) rfl ?_
        cases hf
        exact g_iret C rfl (gdec dt_X10_clerk 31 rfl)
      replace hf := (if_neg hc8).symm.trans hf
      by_cases hc11 : x2 = (2 : Int32)
      · have hf := (if_pos hc11).symm.trans hf
        refine g_tableIn C (tgt := 96) (off := 68) (gdec dt_X10_clerk 15 rfl) (by rw [hc11]; decide) (by rw [hc11]; decide) (by rw [hc11]; decide) (by decide) ?_
        refine g_aload_n C (gdec dt_X10_clerk 32 rfl) (i := 0) rfl rfl ?_
        refine g_aload_n C (gdec dt_X10_clerk 33 rfl) (i := 0) rfl rfl ?_
        refine g_getr C (j := 14) kf_X10_26 rfl rfl (gdec dt_X10_clerk 34 rfl) ?_
        refine g_getr C (j := 21) kf_X10_275 rfl rfl (gdec dt_X10_clerk 35 rfl) ?_
        refine g_iload_n C (gdec dt_X10_clerk 36 rfl) (i := 1) rfl rfl ?_
        obtain ⟨hg12, hf⟩ := gif hf
        refine g_iald C (i := 21) rfl hg12 rfl (gdec dt_X10_clerk 37 rfl) ?_
        obtain ⟨q13, hq13, hf⟩ := Option.bind_eq_some_iff.mp hf
        refine g_invV [.int (w.1 21 x1.toNatClampNeg)] [] C (c_X10_answer l D cA _ (gCi C) w (w.1 21 x1.toNatClampNeg) q13 hq13) kT_X10_answer kl_X10_114 kim_X10_answer kse_X10_answer rfl rfl (i := 0) rfl rfl ⟨by decide, by decide⟩ gk0 (Nat.le_of_ble_eq_true rfl) (gdec dt_X10_clerk 38 rfl) rfl (st2 := [.int q13.1]) rfl ?_
        cases hf
        exact g_iret C rfl (gdec dt_X10_clerk 39 rfl)
      replace hf := (if_neg hc11).symm.trans hf
      by_cases hc14 : x2 = (3 : Int32)
      · have hf := (if_pos hc14).symm.trans hf
        refine g_tableIn C (tgt := 110) (off := 82) (gdec dt_X10_clerk 15 rfl) (by rw [hc14]; decide) (by rw [hc14]; decide) (by rw [hc14]; decide) (by decide) ?_
        refine g_aload_n C (gdec dt_X10_clerk 40 rfl) (i := 0) rfl rfl ?_
        refine g_aload_n C (gdec dt_X10_clerk 41 rfl) (i := 0) rfl rfl ?_
        refine g_getr C (j := 14) kf_X10_26 rfl rfl (gdec dt_X10_clerk 42 rfl) ?_
        refine g_getr C (j := 22) kf_X10_278 rfl rfl (gdec dt_X10_clerk 43 rfl) ?_
        refine g_iload_n C (gdec dt_X10_clerk 44 rfl) (i := 1) rfl rfl ?_
        obtain ⟨hg15, hf⟩ := gif hf
        refine g_iald C (i := 22) rfl hg15 rfl (gdec dt_X10_clerk 45 rfl) ?_
        obtain ⟨q16, hq16, hf⟩ := Option.bind_eq_some_iff.mp hf
        refine g_invV [.int (w.1 22 x1.toNatClampNeg)] [] C (c_X10_answer l D cA _ (gCi C) w (w.1 22 x1.toNatClampNeg) q16 hq16) kT_X10_answer kl_X10_114 kim_X10_answer kse_X10_answer rfl rfl (i := 0) rfl rfl ⟨by decide, by decide⟩ gk0 (Nat.le_of_ble_eq_true rfl) (gdec dt_X10_clerk 46 rfl) rfl (st2 := [.int q16.1]) rfl ?_
        cases hf
        exact g_iret C rfl (gdec dt_X10_clerk 47 rfl)
      replace hf := (if_neg hc14).symm.trans hf
      by_cases hc17 : x2 = (4 : Int32)
      · have hf := (if_pos hc17).symm.trans hf
        refine g_tableIn C (tgt := 124) (off := 96) (gdec dt_X10_clerk 15 rfl) (by rw [hc17]; decide) (by rw [hc17]; decide) (by rw [hc17]; decide) (by decide) ?_
        refine g_aload_n C (gdec dt_X10_clerk 48 rfl) (i := 0) rfl rfl ?_
        refine g_aload_n C (gdec dt_X10_clerk 49 rfl) (i := 0) rfl rfl ?_
        refine g_getr C (j := 14) kf_X10_26 rfl rfl (gdec dt_X10_clerk 50 rfl) ?_
        refine g_iload_n C (gdec dt_X10_clerk 51 rfl) (i := 1) rfl rfl ?_
        obtain ⟨q18, hq18, hf⟩ := Option.bind_eq_some_iff.mp hf
        refine g_invVs e_shX_shB_14 [.int x1] [.ref 0] C (c_X0_looksOf l D cA _ (gInj_sub em_e_shX_shB_14 (gCi C)) (gsub w e_shX_shB_14) x1 q18 hq18) em_e_shX_shB_14 (by decide) rfl kT_X0_looksOf kl_X10_281 kim_X0_looksOf kse_X0_looksOf rfl rfl (i := 14) rfl rfl ⟨by decide, by decide⟩ gk0 (Nat.le_of_ble_eq_true rfl) (gdec dt_X10_clerk 52 rfl) rfl (st2 := [.int q18, .ref 0]) (w2 := w) rfl (gput_sub _ _) ?_
        obtain ⟨q19, hq19, hf⟩ := Option.bind_eq_some_iff.mp hf
        refine g_invV [.int q18] [] C (c_X10_answer l D cA _ (gCi C) w q18 q19 hq19) kT_X10_answer kl_X10_114 kim_X10_answer kse_X10_answer rfl rfl (i := 0) rfl rfl ⟨by decide, by decide⟩ gk0 (Nat.le_of_ble_eq_true rfl) (gdec dt_X10_clerk 53 rfl) rfl (st2 := [.int q19.1]) rfl ?_
        cases hf
        exact g_iret C rfl (gdec dt_X10_clerk 54 rfl)
      replace hf := (if_neg hc17).symm.trans hf
      by_cases hc20 : x2 = (5 : Int32)
      · have hf := (if_pos hc20).symm.trans hf
        refine g_tableIn C (tgt := 137) (off := 109) (gdec dt_X10_clerk 15 rfl) (by rw [hc20]; decide) (by rw [hc20]; decide) (by rw [hc20]; decide) (by decide) ?_
        refine g_aload_n C (gdec dt_X10_clerk 55 rfl) (i := 0) rfl rfl ?_
        refine g_aload_n C (gdec dt_X10_clerk 56 rfl) (i := 0) rfl rfl ?_
        refine g_getr C (j := 14) kf_X10_26 rfl rfl (gdec dt_X10_clerk 57 rfl) ?_
        refine g_getr C (j := 23) kf_X10_284 rfl rfl (gdec dt_X10_clerk 58 rfl) ?_
        refine g_iload_n C (gdec dt_X10_clerk 59 rfl) (i := 1) rfl rfl ?_
        obtain ⟨hg21, hf⟩ := gif hf
        refine g_iald C (i := 23) rfl hg21 rfl (gdec dt_X10_clerk 60 rfl) ?_
        obtain ⟨q22, hq22, hf⟩ := Option.bind_eq_some_iff.mp hf
        refine g_invV [.int (w.1 23 x1.toNatClampNeg)] [] C (c_X10_answer l D cA _ (gCi C) w (w.1 23 x1.toNatClampNeg) q22 hq22) kT_X10_answer kl_X10_114 kim_X10_answer kse_X10_answer rfl rfl (i := 0) rfl rfl ⟨by decide, by decide⟩ gk0 (Nat.le_of_ble_eq_true rfl) (gdec dt_X10_clerk 61 rfl) rfl (st2 := [.int q22.1]) rfl ?_
        cases hf
        exact g_iret C rfl (gdec dt_X10_clerk 62 rfl)
      replace hf := (if_neg hc20).symm.trans hf
      refine g_tableOut C (tgt := 151) (gdec dt_X10_clerk 15 rfl) (gtsw_out (fun j hj => ?_)) (by decide) ?_
      · match j, hj with
        | 0, _ => exact lv_neT hc5 (by decide)
        | 1, _ => exact lv_neT hc8 (by decide)
        | 2, _ => exact lv_neT hc11 (by decide)
        | 3, _ => exact lv_neT hc14 (by decide)
        | 4, _ => exact lv_neT hc17 (by decide)
        | 5, _ => exact lv_neT hc20 (by decide)
        | j + 6, hj => exact absurd hj (by simp)
      refine g_aload_n C (gdec dt_X10_clerk 63 rfl) (i := 0) rfl rfl ?_
      refine g_aload_n C (gdec dt_X10_clerk 64 rfl) (i := 0) rfl rfl ?_
      refine g_getr C (j := 14) kf_X10_26 rfl rfl (gdec dt_X10_clerk 65 rfl) ?_
      refine g_getr C (j := 24) kf_X10_287 rfl rfl (gdec dt_X10_clerk 66 rfl) ?_
      refine g_iload_n C (gdec dt_X10_clerk 67 rfl) (i := 1) rfl rfl ?_
      obtain ⟨hg23, hf⟩ := gif hf
      refine g_iald C (i := 24) rfl hg23 rfl (gdec dt_X10_clerk 68 rfl) ?_
      obtain ⟨q24, hq24, hf⟩ := Option.bind_eq_some_iff.mp hf
      refine g_invV [.int (w.1 24 x1.toNatClampNeg)] [] C (c_X10_answer l D cA _ (gCi C) w (w.1 24 x1.toNatClampNeg) q24 hq24) kT_X10_answer kl_X10_114 kim_X10_answer kse_X10_answer rfl rfl (i := 0) rfl rfl ⟨by decide, by decide⟩ gk0 (Nat.le_of_ble_eq_true rfl) (gdec dt_X10_clerk 69 rfl) rfl (st2 := [.int q24.1]) rfl ?_
      cases hf
      exact g_iret C rfl (gdec dt_X10_clerk 70 rfl)
    · have hf := (if_pos hc4).symm.trans hf
      refine g_sub [0] (lo2 := [(0, .ref 0)]) rfl ?_
      exact L_X10_clerk_21 C w hf
set_option maxHeartbeats 4000000 in
set_option maxRecDepth 100000 in
theorem c_X10_rankOf (l : Launch) (D : va_G) (cA ad : Nat → Nat) (hin : gInj ad shX.length) (w : GW) (x1 : Int32) (q : (Int32 × GW)) (hf : F_X10_rankOf x1 w = some q) : gMet l yX10_rankOf cX10_rankOf 2 (some .int) 3 163 D cA ad shX [.ref 0, .int x1] w (some (.int q.1)) q.2 := by
  refine g_entry (by decide) hin (Nat.le_of_ble_eq_true rfl) ?_
  intro p e s m args below meth c C
  unfold F_X10_rankOf at hf
  show gW p l e (gRm 3 163) s m args below meth c D cA ad shX 2 0 0 (gQ below D cA ad shX (some (.int q.1)) q.2 args s) 0 [(0, .ref 0), (1, .int x1)] [] w
  refine g_aload_n C (gdec dt_X10_rankOf 0 rfl) (i := 0) rfl rfl ?_
  refine g_getr C (j := 14) kf_X10_26 rfl rfl (gdec dt_X10_rankOf 1 rfl) ?_
  refine g_iload_n C (gdec dt_X10_rankOf 2 rfl) (i := 1) rfl rfl ?_
  obtain ⟨q1, hq1, hf⟩ := Option.bind_eq_some_iff.mp hf
  refine g_invVs e_shX_shB_14 [.int x1] [] C (c_X0_hasClerk l D cA _ (gInj_sub em_e_shX_shB_14 (gCi C)) (gsub w e_shX_shB_14) x1 q1 hq1) em_e_shX_shB_14 (by decide) rfl kT_X0_hasClerk kl_X10_266 kim_X0_hasClerk kse_X0_hasClerk rfl rfl (i := 14) rfl rfl ⟨by decide, by decide⟩ gk0 (Nat.le_of_ble_eq_true rfl) (gdec dt_X10_rankOf 3 rfl) rfl (st2 := [.int q1]) (w2 := w) rfl (gput_sub _ _) ?_
  refine g_if_ne C (tgt := 17) (gdec dt_X10_rankOf 4 rfl) (by decide) (fun hc2 => ?_) (fun hc2 => ?_)
  · have hf := (if_neg hc2).symm.trans hf
    refine g_aload_n C (gdec dt_X10_rankOf 9 rfl) (i := 0) rfl rfl ?_
    refine g_aload_n C (gdec dt_X10_rankOf 10 rfl) (i := 0) rfl rfl ?_
    refine g_getr C (j := 14) kf_X10_26 rfl rfl (gdec dt_X10_rankOf 11 rfl) ?_
    refine g_aload_n C (gdec dt_X10_rankOf 12 rfl) (i := 0) rfl rfl ?_
    refine g_getr C (j := 14) kf_X10_26 rfl rfl (gdec dt_X10_rankOf 13 rfl) ?_
    refine g_iload_n C (gdec dt_X10_rankOf 14 rfl) (i := 1) rfl rfl ?_
    obtain ⟨q3, hq3, hf⟩ := Option.bind_eq_some_iff.mp hf
    refine g_invVs e_shX_shB_14 [.int x1] [.ref 14, .ref 0] C (c_X0_looksOf l D cA _ (gInj_sub em_e_shX_shB_14 (gCi C)) (gsub w e_shX_shB_14) x1 q3 hq3) em_e_shX_shB_14 (by decide) rfl kT_X0_looksOf kl_X10_281 kim_X0_looksOf kse_X0_looksOf rfl rfl (i := 14) rfl rfl ⟨by decide, by decide⟩ gk0 (Nat.le_of_ble_eq_true rfl) (gdec dt_X10_rankOf 15 rfl) rfl (st2 := [.int q3, .ref 14, .ref 0]) (w2 := w) rfl (gput_sub _ _) ?_
    obtain ⟨q4, hq4, hf⟩ := Option.bind_eq_some_iff.mp hf
    refine g_invVs e_shX_shB_14 [.int q3] [.ref 0] C (c_X0_rankBy l D cA _ (gInj_sub em_e_shX_shB_14 (gCi C)) (gsub w e_shX_shB_14) q3 q4 hq4) em_e_shX_shB_14 (by decide) rfl kT_X0_rankBy kl_X10_290 kim_X0_rankBy kse_X0_rankBy rfl rfl (i := 14) rfl rfl ⟨by decide, by decide⟩ gk0 (Nat.le_of_ble_eq_true rfl) (gdec dt_X10_rankOf 16 rfl) rfl (st2 := [.int q4, .ref 0]) (w2 := w) rfl (gput_sub _ _) ?_
    refine g_bipush C (gdec dt_X10_rankOf 17 rfl) bc_6 ?_
    obtain ⟨q5, hq5, hf⟩ := Option.bind_eq_some_iff.mp hf
    refine g_invV [.int q4, .int (6 : Int32)] [] C (c_X10_answerOrRefuse l D cA _ (gCi C) w q4 (6 : Int32) q5 hq5) kT_X10_answerOrRefuse kl_X10_252 kim_X10_answerOrRefuse kse_X10_answerOrRefuse rfl rfl (i := 0) rfl rfl ⟨by decide, by decide⟩ gk0 (Nat.le_of_ble_eq_true rfl) (gdec dt_X10_rankOf 18 rfl) rfl (st2 := [.int q5.1]) rfl ?_
    cases hf
    exact g_iret C rfl (gdec dt_X10_rankOf 19 rfl)
  · have hf := (if_pos hc2).symm.trans hf
    refine g_aload_n C (gdec dt_X10_rankOf 5 rfl) (i := 0) rfl rfl ?_
    refine g_iconst C (gdec dt_X10_rankOf 6 rfl) ic_1 ?_
    obtain ⟨q6, hq6, hf⟩ := Option.bind_eq_some_iff.mp hf
    refine g_invV [.int (1 : Int32)] [] C (c_X10_refuse l D cA _ (gCi C) w (1 : Int32) q6 hq6) kT_X10_refuse kl_X10_110 kim_X10_refuse kse_X10_refuse rfl rfl (i := 0) rfl rfl ⟨by decide, by decide⟩ gk0 (Nat.le_of_ble_eq_true rfl) (gdec dt_X10_rankOf 7 rfl) rfl (st2 := [.int q6.1]) rfl ?_
    cases hf
    exact g_iret C rfl (gdec dt_X10_rankOf 8 rfl)
set_option maxHeartbeats 4000000 in
set_option maxRecDepth 100000 in
theorem L_X10_client_20 {p : Program} {l : Launch} {e : Env} {s : State} {m : MethodId} {args : Array Value} {below : List Frame} {meth : Method} {c : Code} {D : va_G} {cA ad : Nat → Nat} {q : (Int32 × GW)} (C : gC p c cX10_client meth m s args 3 (some .int) RX10 D cA ad shX) (w : GW) (hf : f_X10_client_20 w = some q) : gW p l e (gRm 2 142) s m args below meth c D cA ad shX 3 0 0 (gQ below D cA ad shX (some (.int q.1)) q.2 args s) 20 [(0, .ref 0)] [] w := by
  unfold f_X10_client_20 at hf
  refine g_aload_n C (gdec dt_X10_client 10 rfl) (i := 0) rfl rfl ?_
  refine g_iconst C (gdec dt_X10_client 11 rfl) ic_1 ?_
  obtain ⟨q8, hq8, hf⟩ := Option.bind_eq_some_iff.mp hf
  refine g_invV [.int (1 : Int32)] [] C (c_X10_refuse l D cA _ (gCi C) w (1 : Int32) q8 hq8) kT_X10_refuse kl_X10_110 kim_X10_refuse kse_X10_refuse rfl rfl (i := 0) rfl rfl ⟨by decide, by decide⟩ gk0 (Nat.le_of_ble_eq_true rfl) (gdec dt_X10_client 12 rfl) rfl (st2 := [.int q8.1]) rfl ?_
  cases hf
  exact g_iret C rfl (gdec dt_X10_client 13 rfl)
set_option maxHeartbeats 4000000 in
set_option maxRecDepth 100000 in
theorem L_X10_client_52 {p : Program} {l : Launch} {e : Env} {s : State} {m : MethodId} {args : Array Value} {below : List Frame} {meth : Method} {c : Code} {D : va_G} {cA ad : Nat → Nat} {q : (Int32 × GW)} (C : gC p c cX10_client meth m s args 3 (some .int) RX10 D cA ad shX) (s0 : Int32) (w : GW) (hf : f_X10_client_52 s0 w = some q) : gW p l e (gRm 2 142) s m args below meth c D cA ad shX 3 0 0 (gQ below D cA ad shX (some (.int q.1)) q.2 args s) 52 [] [.int s0, .ref 0] w := by
  unfold f_X10_client_52 at hf
  obtain ⟨q9, hq9, hf⟩ := Option.bind_eq_some_iff.mp hf
  refine g_invV [.int s0] [] C (c_X10_answer l D cA _ (gCi C) w s0 q9 hq9) kT_X10_answer kl_X10_114 kim_X10_answer kse_X10_answer rfl rfl (i := 0) rfl rfl ⟨by decide, by decide⟩ gk0 (Nat.le_of_ble_eq_true rfl) (gdec dt_X10_client 28 rfl) rfl (st2 := [.int q9.1]) rfl ?_
  cases hf
  exact g_iret C rfl (gdec dt_X10_client 29 rfl)
set_option maxHeartbeats 4000000 in
set_option maxRecDepth 100000 in
theorem c_X10_client (l : Launch) (D : va_G) (cA ad : Nat → Nat) (hin : gInj ad shX.length) (w : GW) (x1 : Int32) (x2 : Int32) (q : (Int32 × GW)) (hf : F_X10_client x1 x2 w = some q) : gMet l yX10_client cX10_client 3 (some .int) 2 142 D cA ad shX [.ref 0, .int x1, .int x2] w (some (.int q.1)) q.2 := by
  refine g_entry (by decide) hin (Nat.le_of_ble_eq_true rfl) ?_
  intro p e s m args below meth c C
  unfold F_X10_client at hf
  show gW p l e (gRm 2 142) s m args below meth c D cA ad shX 3 0 0 (gQ below D cA ad shX (some (.int q.1)) q.2 args s) 0 [(0, .ref 0), (1, .int x1), (2, .int x2)] [] w
  refine g_aload_n C (gdec dt_X10_client 0 rfl) (i := 0) rfl rfl ?_
  refine g_getr C (j := 14) kf_X10_26 rfl rfl (gdec dt_X10_client 1 rfl) ?_
  refine g_iload_n C (gdec dt_X10_client 2 rfl) (i := 1) rfl rfl ?_
  obtain ⟨q1, hq1, hf⟩ := Option.bind_eq_some_iff.mp hf
  refine g_invVs e_shX_shB_14 [.int x1] [] C (c_X0_hasClient l D cA _ (gInj_sub em_e_shX_shB_14 (gCi C)) (gsub w e_shX_shB_14) x1 q1 hq1) em_e_shX_shB_14 (by decide) rfl kT_X0_hasClient kl_X10_293 kim_X0_hasClient kse_X0_hasClient rfl rfl (i := 14) rfl rfl ⟨by decide, by decide⟩ gk0 (Nat.le_of_ble_eq_true rfl) (gdec dt_X10_client 3 rfl) rfl (st2 := [.int q1]) (w2 := w) rfl (gput_sub _ _) ?_
  refine g_if_eq C (tgt := 20) (gdec dt_X10_client 4 rfl) (by decide) (fun hc2 => ?_) (fun hc2 => ?_)
  · have hf := (if_pos hc2).symm.trans hf
    refine g_sub [0] (lo2 := [(0, .ref 0)]) rfl ?_
    exact L_X10_client_20 C w hf
  · have hf := (if_neg hc2).symm.trans hf
    refine g_iload_n C (gdec dt_X10_client 5 rfl) (i := 2) rfl rfl ?_
    refine g_iconst C (gdec dt_X10_client 6 rfl) ic_0 ?_
    refine g_iconst C (gdec dt_X10_client 7 rfl) ic_1 ?_
    obtain ⟨q3, hq3, hf⟩ := Option.bind_eq_some_iff.mp hf
    refine g_invSs e_nil [.int x2, .int (0 : Int32), .int (1 : Int32)] [] C (c_X10_between l D cA _ (gInj_sub em_e_nil_shX (gCi C)) (gsub w e_nil) x2 (0 : Int32) (1 : Int32) q3 hq3) em_e_nil_shX (by decide) rfl kT_X10_between kl_X10_126 kst_X10_between rfl rfl ⟨by decide, by decide⟩ gk0 (Nat.le_of_ble_eq_true rfl) (gdec dt_X10_client 8 rfl) rfl (st2 := [.int q3]) (w2 := w) rfl (gput_sub _ _) ?_
    refine g_if_ne C (tgt := 26) (gdec dt_X10_client 9 rfl) (by decide) (fun hc4 => ?_) (fun hc4 => ?_)
    · have hf := (if_neg hc4).symm.trans hf
      refine g_aload_n C (gdec dt_X10_client 14 rfl) (i := 0) rfl rfl ?_
      refine g_iload_n C (gdec dt_X10_client 15 rfl) (i := 2) rfl rfl ?_
      refine g_if_ne C (tgt := 43) (gdec dt_X10_client 16 rfl) (by decide) (fun hc5 => ?_) (fun hc5 => ?_)
      · have hf := (if_neg hc5).symm.trans hf
        refine g_aload_n C (gdec dt_X10_client 23 rfl) (i := 0) rfl rfl ?_
        refine g_getr C (j := 14) kf_X10_26 rfl rfl (gdec dt_X10_client 24 rfl) ?_
        refine g_getr C (j := 26) kf_X10_299 rfl rfl (gdec dt_X10_client 25 rfl) ?_
        refine g_iload_n C (gdec dt_X10_client 26 rfl) (i := 1) rfl rfl ?_
        obtain ⟨hg6, hf⟩ := gif hf
        refine g_iald C (i := 26) rfl hg6 rfl (gdec dt_X10_client 27 rfl) ?_
        refine g_sub [] (lo2 := []) rfl ?_
        exact L_X10_client_52 C (w.1 26 x1.toNatClampNeg) w hf
      · have hf := (if_pos hc5).symm.trans hf
        refine g_aload_n C (gdec dt_X10_client 17 rfl) (i := 0) rfl rfl ?_
        refine g_getr C (j := 14) kf_X10_26 rfl rfl (gdec dt_X10_client 18 rfl) ?_
        refine g_getr C (j := 25) kf_X10_296 rfl rfl (gdec dt_X10_client 19 rfl) ?_
        refine g_iload_n C (gdec dt_X10_client 20 rfl) (i := 1) rfl rfl ?_
        obtain ⟨hg7, hf⟩ := gif hf
        refine g_iald C (i := 25) rfl hg7 rfl (gdec dt_X10_client 21 rfl) ?_
        refine g_goto C (tgt := 52) (gdec dt_X10_client 22 rfl) (by decide) ?_
        refine g_sub [] (lo2 := []) rfl ?_
        exact L_X10_client_52 C (w.1 25 x1.toNatClampNeg) w hf
    · have hf := (if_pos hc4).symm.trans hf
      refine g_sub [0] (lo2 := [(0, .ref 0)]) rfl ?_
      exact L_X10_client_20 C w hf
set_option maxHeartbeats 4000000 in
set_option maxRecDepth 100000 in
theorem c_X10_year (l : Launch) (D : va_G) (cA ad : Nat → Nat) (hin : gInj ad shX.length) (w : GW) (x1 : Int32) (q : (Int32 × GW)) (hf : F_X10_year x1 w = some q) : gMet l yX10_year cX10_year 2 (some .int) 5 211 D cA ad shX [.ref 0, .int x1] w (some (.int q.1)) q.2 := by
  refine g_entry (by decide) hin (Nat.le_of_ble_eq_true rfl) ?_
  intro p e s m args below meth c C
  unfold F_X10_year at hf
  show gW p l e (gRm 5 211) s m args below meth c D cA ad shX 2 0 0 (gQ below D cA ad shX (some (.int q.1)) q.2 args s) 0 [(0, .ref 0), (1, .int x1)] [] w
  refine g_iload_n C (gdec dt_X10_year 0 rfl) (i := 1) rfl rfl ?_
  refine g_iconst C (gdec dt_X10_year 1 rfl) ic_1 ?_
  refine g_bipush C (gdec dt_X10_year 2 rfl) bc_99 ?_
  obtain ⟨q1, hq1, hf⟩ := Option.bind_eq_some_iff.mp hf
  refine g_invSs e_nil [.int x1, .int (1 : Int32), .int (99 : Int32)] [] C (c_X10_between l D cA _ (gInj_sub em_e_nil_shX (gCi C)) (gsub w e_nil) x1 (1 : Int32) (99 : Int32) q1 hq1) em_e_nil_shX (by decide) rfl kT_X10_between kl_X10_126 kst_X10_between rfl rfl ⟨by decide, by decide⟩ gk0 (Nat.le_of_ble_eq_true rfl) (gdec dt_X10_year 3 rfl) rfl (st2 := [.int q1]) (w2 := w) rfl (gput_sub _ _) ?_
  refine g_if_ne C (tgt := 16) (gdec dt_X10_year 4 rfl) (by decide) (fun hc2 => ?_) (fun hc2 => ?_)
  · have hf := (if_neg hc2).symm.trans hf
    refine g_aload_n C (gdec dt_X10_year 9 rfl) (i := 0) rfl rfl ?_
    refine g_aload_n C (gdec dt_X10_year 10 rfl) (i := 0) rfl rfl ?_
    refine g_getr C (j := 14) kf_X10_26 rfl rfl (gdec dt_X10_year 11 rfl) ?_
    refine g_iload_n C (gdec dt_X10_year 12 rfl) (i := 1) rfl rfl ?_
    obtain ⟨q3, hq3, hf⟩ := Option.bind_eq_some_iff.mp hf
    refine g_invVs e_shX_shB_14 [.int x1] [.ref 0] C (c_X0_passYears l D cA _ (gInj_sub em_e_shX_shB_14 (gCi C)) (gsub w e_shX_shB_14) x1 q3 hq3) em_e_shX_shB_14 (by decide) rfl kT_X0_passYears kl_X10_302 kim_X0_passYears kse_X0_passYears rfl rfl (i := 14) rfl rfl ⟨by decide, by decide⟩ gk0 (Nat.le_of_ble_eq_true rfl) (gdec dt_X10_year 13 rfl) rfl (st2 := [.int q3.1, .ref 0]) (w2 := (gput w e_shX_shB_14 q3.2)) rfl rfl ?_
    refine g_iconst C (gdec dt_X10_year 14 rfl) ic_4 ?_
    obtain ⟨q4, hq4, hf⟩ := Option.bind_eq_some_iff.mp hf
    refine g_invV [.int q3.1, .int (4 : Int32)] [] C (c_X10_answerOrRefuse l D cA _ (gCi C) (gput w e_shX_shB_14 q3.2) q3.1 (4 : Int32) q4 hq4) kT_X10_answerOrRefuse kl_X10_252 kim_X10_answerOrRefuse kse_X10_answerOrRefuse rfl rfl (i := 0) rfl rfl ⟨by decide, by decide⟩ gk0 (Nat.le_of_ble_eq_true rfl) (gdec dt_X10_year 15 rfl) rfl (st2 := [.int q4.1]) rfl ?_
    cases hf
    exact g_iret C rfl (gdec dt_X10_year 16 rfl)
  · have hf := (if_pos hc2).symm.trans hf
    refine g_aload_n C (gdec dt_X10_year 5 rfl) (i := 0) rfl rfl ?_
    refine g_iconst C (gdec dt_X10_year 6 rfl) ic_1 ?_
    obtain ⟨q5, hq5, hf⟩ := Option.bind_eq_some_iff.mp hf
    refine g_invV [.int (1 : Int32)] [] C (c_X10_refuse l D cA _ (gCi C) w (1 : Int32) q5 hq5) kT_X10_refuse kl_X10_110 kim_X10_refuse kse_X10_refuse rfl rfl (i := 0) rfl rfl ⟨by decide, by decide⟩ gk0 (Nat.le_of_ble_eq_true rfl) (gdec dt_X10_year 7 rfl) rfl (st2 := [.int q5.1]) rfl ?_
    cases hf
    exact g_iret C rfl (gdec dt_X10_year 8 rfl)
set_option maxHeartbeats 4000000 in
set_option maxRecDepth 100000 in
theorem L_X10_move_22 {p : Program} {l : Launch} {e : Env} {s : State} {m : MethodId} {args : Array Value} {below : List Frame} {meth : Method} {c : Code} {D : va_G} {cA ad : Nat → Nat} {q : (Int32 × GW)} (C : gC p c cX10_move meth m s args 3 (some .int) RX10 D cA ad shX) (w : GW) (hf : f_X10_move_22 w = some q) : gW p l e (gRm 4 184) s m args below meth c D cA ad shX 3 0 0 (gQ below D cA ad shX (some (.int q.1)) q.2 args s) 22 [(0, .ref 0)] [] w := by
  unfold f_X10_move_22 at hf
  refine g_aload_n C (gdec dt_X10_move 10 rfl) (i := 0) rfl rfl ?_
  refine g_iconst C (gdec dt_X10_move 11 rfl) ic_1 ?_
  obtain ⟨q7, hq7, hf⟩ := Option.bind_eq_some_iff.mp hf
  refine g_invV [.int (1 : Int32)] [] C (c_X10_refuse l D cA _ (gCi C) w (1 : Int32) q7 hq7) kT_X10_refuse kl_X10_110 kim_X10_refuse kse_X10_refuse rfl rfl (i := 0) rfl rfl ⟨by decide, by decide⟩ gk0 (Nat.le_of_ble_eq_true rfl) (gdec dt_X10_move 12 rfl) rfl (st2 := [.int q7.1]) rfl ?_
  cases hf
  exact g_iret C rfl (gdec dt_X10_move 13 rfl)
set_option maxHeartbeats 4000000 in
set_option maxRecDepth 100000 in
theorem c_X10_move (l : Launch) (D : va_G) (cA ad : Nat → Nat) (hin : gInj ad shX.length) (w : GW) (x1 : Int32) (x2 : Int32) (q : (Int32 × GW)) (hf : F_X10_move x1 x2 w = some q) : gMet l yX10_move cX10_move 3 (some .int) 4 184 D cA ad shX [.ref 0, .int x1, .int x2] w (some (.int q.1)) q.2 := by
  refine g_entry (by decide) hin (Nat.le_of_ble_eq_true rfl) ?_
  intro p e s m args below meth c C
  unfold F_X10_move at hf
  show gW p l e (gRm 4 184) s m args below meth c D cA ad shX 3 0 0 (gQ below D cA ad shX (some (.int q.1)) q.2 args s) 0 [(0, .ref 0), (1, .int x1), (2, .int x2)] [] w
  refine g_aload_n C (gdec dt_X10_move 0 rfl) (i := 0) rfl rfl ?_
  refine g_getr C (j := 14) kf_X10_26 rfl rfl (gdec dt_X10_move 1 rfl) ?_
  refine g_iload_n C (gdec dt_X10_move 2 rfl) (i := 1) rfl rfl ?_
  obtain ⟨q1, hq1, hf⟩ := Option.bind_eq_some_iff.mp hf
  refine g_invVs e_shX_shB_14 [.int x1] [] C (c_X0_hasClerk l D cA _ (gInj_sub em_e_shX_shB_14 (gCi C)) (gsub w e_shX_shB_14) x1 q1 hq1) em_e_shX_shB_14 (by decide) rfl kT_X0_hasClerk kl_X10_266 kim_X0_hasClerk kse_X0_hasClerk rfl rfl (i := 14) rfl rfl ⟨by decide, by decide⟩ gk0 (Nat.le_of_ble_eq_true rfl) (gdec dt_X10_move 3 rfl) rfl (st2 := [.int q1]) (w2 := w) rfl (gput_sub _ _) ?_
  refine g_if_eq C (tgt := 22) (gdec dt_X10_move 4 rfl) (by decide) (fun hc2 => ?_) (fun hc2 => ?_)
  · have hf := (if_pos hc2).symm.trans hf
    refine g_sub [0] (lo2 := [(0, .ref 0)]) rfl ?_
    exact L_X10_move_22 C w hf
  · have hf := (if_neg hc2).symm.trans hf
    refine g_aload_n C (gdec dt_X10_move 5 rfl) (i := 0) rfl rfl ?_
    refine g_getr C (j := 14) kf_X10_26 rfl rfl (gdec dt_X10_move 6 rfl) ?_
    refine g_iload_n C (gdec dt_X10_move 7 rfl) (i := 2) rfl rfl ?_
    obtain ⟨q3, hq3, hf⟩ := Option.bind_eq_some_iff.mp hf
    refine g_invVs e_shX_shB_14 [.int x2] [] C (c_X0_hasCorner l D cA _ (gInj_sub em_e_shX_shB_14 (gCi C)) (gsub w e_shX_shB_14) x2 q3 hq3) em_e_shX_shB_14 (by decide) rfl kT_X0_hasCorner kl_X10_242 kim_X0_hasCorner kse_X0_hasCorner rfl rfl (i := 14) rfl rfl ⟨by decide, by decide⟩ gk0 (Nat.le_of_ble_eq_true rfl) (gdec dt_X10_move 8 rfl) rfl (st2 := [.int q3]) (w2 := w) rfl (gput_sub _ _) ?_
    refine g_if_ne C (tgt := 28) (gdec dt_X10_move 9 rfl) (by decide) (fun hc4 => ?_) (fun hc4 => ?_)
    · have hf := (if_neg hc4).symm.trans hf
      refine g_aload_n C (gdec dt_X10_move 14 rfl) (i := 0) rfl rfl ?_
      refine g_aload_n C (gdec dt_X10_move 15 rfl) (i := 0) rfl rfl ?_
      refine g_getr C (j := 14) kf_X10_26 rfl rfl (gdec dt_X10_move 16 rfl) ?_
      refine g_iload_n C (gdec dt_X10_move 17 rfl) (i := 1) rfl rfl ?_
      refine g_iload_n C (gdec dt_X10_move 18 rfl) (i := 2) rfl rfl ?_
      obtain ⟨q5, hq5, hf⟩ := Option.bind_eq_some_iff.mp hf
      refine g_invVs e_shX_shB_14 [.int x1, .int x2] [.ref 0] C (c_X0_seatElsewhere l D cA _ (gInj_sub em_e_shX_shB_14 (gCi C)) (gsub w e_shX_shB_14) x1 x2 q5 hq5) em_e_shX_shB_14 (by decide) rfl kT_X0_seatElsewhere kl_X10_305 kim_X0_seatElsewhere kse_X0_seatElsewhere rfl rfl (i := 14) rfl rfl ⟨by decide, by decide⟩ gk0 (Nat.le_of_ble_eq_true rfl) (gdec dt_X10_move 19 rfl) rfl (st2 := [.int q5.1, .ref 0]) (w2 := (gput w e_shX_shB_14 q5.2)) rfl rfl ?_
      refine g_bipush C (gdec dt_X10_move 20 rfl) bc_7 ?_
      obtain ⟨q6, hq6, hf⟩ := Option.bind_eq_some_iff.mp hf
      refine g_invV [.int q5.1, .int (7 : Int32)] [] C (c_X10_answerOrRefuse l D cA _ (gCi C) (gput w e_shX_shB_14 q5.2) q5.1 (7 : Int32) q6 hq6) kT_X10_answerOrRefuse kl_X10_252 kim_X10_answerOrRefuse kse_X10_answerOrRefuse rfl rfl (i := 0) rfl rfl ⟨by decide, by decide⟩ gk0 (Nat.le_of_ble_eq_true rfl) (gdec dt_X10_move 21 rfl) rfl (st2 := [.int q6.1]) rfl ?_
      cases hf
      exact g_iret C rfl (gdec dt_X10_move 22 rfl)
    · have hf := (if_pos hc4).symm.trans hf
      refine g_sub [0] (lo2 := [(0, .ref 0)]) rfl ?_
      exact L_X10_move_22 C w hf
set_option maxHeartbeats 4000000 in
set_option maxRecDepth 100000 in
theorem c_X10_areTwo (l : Launch) (D : va_G) (cA ad : Nat → Nat) (hin : gInj ad shX.length) (w : GW) (x1 : Int32) (x2 : Int32) (q : Int32) (hf : F_X10_areTwo w x1 x2 = some q) : gMet l yX10_areTwo cX10_areTwo 3 (some .boolean) 2 141 D cA ad shX [.ref 0, .int x1, .int x2] w (some (.int q)) w := by
  refine g_entry (by decide) hin (Nat.le_of_ble_eq_true rfl) ?_
  intro p e s m args below meth c C
  unfold F_X10_areTwo at hf
  show gW p l e (gRm 2 141) s m args below meth c D cA ad shX 3 0 0 (gQ below D cA ad shX (some (.int q)) w args s) 0 [(0, .ref 0), (1, .int x1), (2, .int x2)] [] w
  refine g_aload_n C (gdec dt_X10_areTwo 0 rfl) (i := 0) rfl rfl ?_
  refine g_getr C (j := 14) kf_X10_26 rfl rfl (gdec dt_X10_areTwo 1 rfl) ?_
  refine g_iload_n C (gdec dt_X10_areTwo 2 rfl) (i := 1) rfl rfl ?_
  obtain ⟨q1, hq1, hf⟩ := Option.bind_eq_some_iff.mp hf
  refine g_invVs e_shX_shB_14 [.int x1] [] C (c_X0_hasClerk l D cA _ (gInj_sub em_e_shX_shB_14 (gCi C)) (gsub w e_shX_shB_14) x1 q1 hq1) em_e_shX_shB_14 (by decide) rfl kT_X0_hasClerk kl_X10_266 kim_X0_hasClerk kse_X0_hasClerk rfl rfl (i := 14) rfl rfl ⟨by decide, by decide⟩ gk0 (Nat.le_of_ble_eq_true rfl) (gdec dt_X10_areTwo 3 rfl) rfl (st2 := [.int q1]) (w2 := w) rfl (gput_sub _ _) ?_
  refine g_if_eq C (tgt := 31) (gdec dt_X10_areTwo 4 rfl) (by decide) (fun hc2 => ?_) (fun hc2 => ?_)
  · have hf := (if_pos hc2).symm.trans hf
    refine g_iconst C (gdec dt_X10_areTwo 15 rfl) ic_0 ?_
    cases hf
    exact g_zret C (Or.inl rfl) rfl (gdec dt_X10_areTwo 16 rfl)
  · have hf := (if_neg hc2).symm.trans hf
    refine g_aload_n C (gdec dt_X10_areTwo 5 rfl) (i := 0) rfl rfl ?_
    refine g_getr C (j := 14) kf_X10_26 rfl rfl (gdec dt_X10_areTwo 6 rfl) ?_
    refine g_iload_n C (gdec dt_X10_areTwo 7 rfl) (i := 2) rfl rfl ?_
    obtain ⟨q3, hq3, hf⟩ := Option.bind_eq_some_iff.mp hf
    refine g_invVs e_shX_shB_14 [.int x2] [] C (c_X0_hasClerk l D cA _ (gInj_sub em_e_shX_shB_14 (gCi C)) (gsub w e_shX_shB_14) x2 q3 hq3) em_e_shX_shB_14 (by decide) rfl kT_X0_hasClerk kl_X10_266 kim_X0_hasClerk kse_X0_hasClerk rfl rfl (i := 14) rfl rfl ⟨by decide, by decide⟩ gk0 (Nat.le_of_ble_eq_true rfl) (gdec dt_X10_areTwo 8 rfl) rfl (st2 := [.int q3]) (w2 := w) rfl (gput_sub _ _) ?_
    refine g_if_eq C (tgt := 31) (gdec dt_X10_areTwo 9 rfl) (by decide) (fun hc4 => ?_) (fun hc4 => ?_)
    · have hf := (if_pos hc4).symm.trans hf
      refine g_iconst C (gdec dt_X10_areTwo 15 rfl) ic_0 ?_
      cases hf
      exact g_zret C (Or.inl rfl) rfl (gdec dt_X10_areTwo 16 rfl)
    · have hf := (if_neg hc4).symm.trans hf
      refine g_iload_n C (gdec dt_X10_areTwo 10 rfl) (i := 1) rfl rfl ?_
      refine g_iload_n C (gdec dt_X10_areTwo 11 rfl) (i := 2) rfl rfl ?_
      refine g_icmp_eq C (tgt := 31) (gdec dt_X10_areTwo 12 rfl) (by decide) (fun hc5 => ?_) (fun hc5 => ?_)
      · have hf := (if_pos hc5).symm.trans hf
        refine g_iconst C (gdec dt_X10_areTwo 15 rfl) ic_0 ?_
        cases hf
        exact g_zret C (Or.inl rfl) rfl (gdec dt_X10_areTwo 16 rfl)
      · have hf := (if_neg hc5).symm.trans hf
        refine g_iconst C (gdec dt_X10_areTwo 13 rfl) ic_1 ?_
        refine g_goto C (tgt := 32) (gdec dt_X10_areTwo 14 rfl) (by decide) ?_
        cases hf
        exact g_zret C (Or.inr rfl) rfl (gdec dt_X10_areTwo 16 rfl)
set_option maxHeartbeats 4000000 in
set_option maxRecDepth 100000 in
theorem c_X10_swap (l : Launch) (D : va_G) (cA ad : Nat → Nat) (hin : gInj ad shX.length) (w : GW) (x1 : Int32) (x2 : Int32) (q : (Int32 × GW)) (hf : F_X10_swap x1 x2 w = some q) : gMet l yX10_swap cX10_swap 3 (some .int) 4 185 D cA ad shX [.ref 0, .int x1, .int x2] w (some (.int q.1)) q.2 := by
  refine g_entry (by decide) hin (Nat.le_of_ble_eq_true rfl) ?_
  intro p e s m args below meth c C
  unfold F_X10_swap at hf
  show gW p l e (gRm 4 185) s m args below meth c D cA ad shX 3 0 0 (gQ below D cA ad shX (some (.int q.1)) q.2 args s) 0 [(0, .ref 0), (1, .int x1), (2, .int x2)] [] w
  refine g_aload_n C (gdec dt_X10_swap 0 rfl) (i := 0) rfl rfl ?_
  refine g_iload_n C (gdec dt_X10_swap 1 rfl) (i := 1) rfl rfl ?_
  refine g_iload_n C (gdec dt_X10_swap 2 rfl) (i := 2) rfl rfl ?_
  obtain ⟨q1, hq1, hf⟩ := Option.bind_eq_some_iff.mp hf
  refine g_invV [.int x1, .int x2] [] C (c_X10_areTwo l D cA _ (gCi C) w x1 x2 q1 hq1) kT_X10_areTwo kl_X10_308 kim_X10_areTwo kse_X10_areTwo rfl rfl (i := 0) rfl rfl ⟨by decide, by decide⟩ gk0 (Nat.le_of_ble_eq_true rfl) (gdec dt_X10_swap 3 rfl) rfl (st2 := [.int q1]) rfl ?_
  refine g_if_ne C (tgt := 15) (gdec dt_X10_swap 4 rfl) (by decide) (fun hc2 => ?_) (fun hc2 => ?_)
  · have hf := (if_neg hc2).symm.trans hf
    refine g_aload_n C (gdec dt_X10_swap 9 rfl) (i := 0) rfl rfl ?_
    refine g_aload_n C (gdec dt_X10_swap 10 rfl) (i := 0) rfl rfl ?_
    refine g_getr C (j := 14) kf_X10_26 rfl rfl (gdec dt_X10_swap 11 rfl) ?_
    refine g_iload_n C (gdec dt_X10_swap 12 rfl) (i := 1) rfl rfl ?_
    refine g_iload_n C (gdec dt_X10_swap 13 rfl) (i := 2) rfl rfl ?_
    obtain ⟨q3, hq3, hf⟩ := Option.bind_eq_some_iff.mp hf
    refine g_invVs e_shX_shB_14 [.int x1, .int x2] [.ref 0] C (c_X0_exchange l D cA _ (gInj_sub em_e_shX_shB_14 (gCi C)) (gsub w e_shX_shB_14) x1 x2 q3 hq3) em_e_shX_shB_14 (by decide) rfl kT_X0_exchange kl_X10_311 kim_X0_exchange kse_X0_exchange rfl rfl (i := 14) rfl rfl ⟨by decide, by decide⟩ gk0 (Nat.le_of_ble_eq_true rfl) (gdec dt_X10_swap 14 rfl) rfl (st2 := [.int q3.1, .ref 0]) (w2 := (gput w e_shX_shB_14 q3.2)) rfl rfl ?_
    refine g_bipush C (gdec dt_X10_swap 15 rfl) bc_7 ?_
    obtain ⟨q4, hq4, hf⟩ := Option.bind_eq_some_iff.mp hf
    refine g_invV [.int q3.1, .int (7 : Int32)] [] C (c_X10_answerOrRefuse l D cA _ (gCi C) (gput w e_shX_shB_14 q3.2) q3.1 (7 : Int32) q4 hq4) kT_X10_answerOrRefuse kl_X10_252 kim_X10_answerOrRefuse kse_X10_answerOrRefuse rfl rfl (i := 0) rfl rfl ⟨by decide, by decide⟩ gk0 (Nat.le_of_ble_eq_true rfl) (gdec dt_X10_swap 16 rfl) rfl (st2 := [.int q4.1]) rfl ?_
    cases hf
    exact g_iret C rfl (gdec dt_X10_swap 17 rfl)
  · have hf := (if_pos hc2).symm.trans hf
    refine g_aload_n C (gdec dt_X10_swap 5 rfl) (i := 0) rfl rfl ?_
    refine g_iconst C (gdec dt_X10_swap 6 rfl) ic_1 ?_
    obtain ⟨q5, hq5, hf⟩ := Option.bind_eq_some_iff.mp hf
    refine g_invV [.int (1 : Int32)] [] C (c_X10_refuse l D cA _ (gCi C) w (1 : Int32) q5 hq5) kT_X10_refuse kl_X10_110 kim_X10_refuse kse_X10_refuse rfl rfl (i := 0) rfl rfl ⟨by decide, by decide⟩ gk0 (Nat.le_of_ble_eq_true rfl) (gdec dt_X10_swap 7 rfl) rfl (st2 := [.int q5.1]) rfl ?_
    cases hf
    exact g_iret C rfl (gdec dt_X10_swap 8 rfl)
set_option maxHeartbeats 4000000 in
set_option maxRecDepth 100000 in
theorem L_X10_fan_21 {p : Program} {l : Launch} {e : Env} {s : State} {m : MethodId} {args : Array Value} {below : List Frame} {meth : Method} {c : Code} {D : va_G} {cA ad : Nat → Nat} {q : (Int32 × GW)} (C : gC p c cX10_fan meth m s args 3 (some .int) RX10 D cA ad shX) (w : GW) (hf : f_X10_fan_21 w = some q) : gW p l e (gRm 3 163) s m args below meth c D cA ad shX 3 0 0 (gQ below D cA ad shX (some (.int q.1)) q.2 args s) 21 [(0, .ref 0)] [] w := by
  unfold f_X10_fan_21 at hf
  refine g_aload_n C (gdec dt_X10_fan 10 rfl) (i := 0) rfl rfl ?_
  refine g_iconst C (gdec dt_X10_fan 11 rfl) ic_1 ?_
  obtain ⟨q7, hq7, hf⟩ := Option.bind_eq_some_iff.mp hf
  refine g_invV [.int (1 : Int32)] [] C (c_X10_refuse l D cA _ (gCi C) w (1 : Int32) q7 hq7) kT_X10_refuse kl_X10_110 kim_X10_refuse kse_X10_refuse rfl rfl (i := 0) rfl rfl ⟨by decide, by decide⟩ gk0 (Nat.le_of_ble_eq_true rfl) (gdec dt_X10_fan 12 rfl) rfl (st2 := [.int q7.1]) rfl ?_
  cases hf
  exact g_iret C rfl (gdec dt_X10_fan 13 rfl)
set_option maxHeartbeats 4000000 in
set_option maxRecDepth 100000 in
theorem c_X10_fan (l : Launch) (D : va_G) (cA ad : Nat → Nat) (hin : gInj ad shX.length) (w : GW) (x1 : Int32) (x2 : Int32) (q : (Int32 × GW)) (hf : F_X10_fan x1 x2 w = some q) : gMet l yX10_fan cX10_fan 3 (some .int) 3 163 D cA ad shX [.ref 0, .int x1, .int x2] w (some (.int q.1)) q.2 := by
  refine g_entry (by decide) hin (Nat.le_of_ble_eq_true rfl) ?_
  intro p e s m args below meth c C
  unfold F_X10_fan at hf
  show gW p l e (gRm 3 163) s m args below meth c D cA ad shX 3 0 0 (gQ below D cA ad shX (some (.int q.1)) q.2 args s) 0 [(0, .ref 0), (1, .int x1), (2, .int x2)] [] w
  refine g_aload_n C (gdec dt_X10_fan 0 rfl) (i := 0) rfl rfl ?_
  refine g_getr C (j := 14) kf_X10_26 rfl rfl (gdec dt_X10_fan 1 rfl) ?_
  refine g_iload_n C (gdec dt_X10_fan 2 rfl) (i := 1) rfl rfl ?_
  obtain ⟨q1, hq1, hf⟩ := Option.bind_eq_some_iff.mp hf
  refine g_invVs e_shX_shB_14 [.int x1] [] C (c_X0_hasClerk l D cA _ (gInj_sub em_e_shX_shB_14 (gCi C)) (gsub w e_shX_shB_14) x1 q1 hq1) em_e_shX_shB_14 (by decide) rfl kT_X0_hasClerk kl_X10_266 kim_X0_hasClerk kse_X0_hasClerk rfl rfl (i := 14) rfl rfl ⟨by decide, by decide⟩ gk0 (Nat.le_of_ble_eq_true rfl) (gdec dt_X10_fan 3 rfl) rfl (st2 := [.int q1]) (w2 := w) rfl (gput_sub _ _) ?_
  refine g_if_eq C (tgt := 21) (gdec dt_X10_fan 4 rfl) (by decide) (fun hc2 => ?_) (fun hc2 => ?_)
  · have hf := (if_pos hc2).symm.trans hf
    refine g_sub [0] (lo2 := [(0, .ref 0)]) rfl ?_
    exact L_X10_fan_21 C w hf
  · have hf := (if_neg hc2).symm.trans hf
    refine g_iload_n C (gdec dt_X10_fan 5 rfl) (i := 2) rfl rfl ?_
    refine g_iconst C (gdec dt_X10_fan 6 rfl) ic_1 ?_
    refine g_bipush C (gdec dt_X10_fan 7 rfl) bc_50 ?_
    obtain ⟨q3, hq3, hf⟩ := Option.bind_eq_some_iff.mp hf
    refine g_invSs e_nil [.int x2, .int (1 : Int32), .int (50 : Int32)] [] C (c_X10_between l D cA _ (gInj_sub em_e_nil_shX (gCi C)) (gsub w e_nil) x2 (1 : Int32) (50 : Int32) q3 hq3) em_e_nil_shX (by decide) rfl kT_X10_between kl_X10_126 kst_X10_between rfl rfl ⟨by decide, by decide⟩ gk0 (Nat.le_of_ble_eq_true rfl) (gdec dt_X10_fan 8 rfl) rfl (st2 := [.int q3]) (w2 := w) rfl (gput_sub _ _) ?_
    refine g_if_ne C (tgt := 27) (gdec dt_X10_fan 9 rfl) (by decide) (fun hc4 => ?_) (fun hc4 => ?_)
    · have hf := (if_neg hc4).symm.trans hf
      refine g_aload_n C (gdec dt_X10_fan 14 rfl) (i := 0) rfl rfl ?_
      refine g_aload_n C (gdec dt_X10_fan 15 rfl) (i := 0) rfl rfl ?_
      refine g_getr C (j := 14) kf_X10_26 rfl rfl (gdec dt_X10_fan 16 rfl) ?_
      refine g_iload_n C (gdec dt_X10_fan 17 rfl) (i := 1) rfl rfl ?_
      refine g_iload_n C (gdec dt_X10_fan 18 rfl) (i := 2) rfl rfl ?_
      obtain ⟨q5, hq5, hf⟩ := Option.bind_eq_some_iff.mp hf
      refine g_invVs e_shX_shB_14 [.int x1, .int x2] [.ref 0] C (c_X0_addSham l D cA _ (gInj_sub em_e_shX_shB_14 (gCi C)) (gsub w e_shX_shB_14) x1 x2 q5 hq5) em_e_shX_shB_14 (by decide) rfl kT_X0_addSham kl_X10_314 kim_X0_addSham kse_X0_addSham rfl rfl (i := 14) rfl rfl ⟨by decide, by decide⟩ gk0 (Nat.le_of_ble_eq_true rfl) (gdec dt_X10_fan 19 rfl) rfl (st2 := [.int q5.1, .ref 0]) (w2 := (gput w e_shX_shB_14 q5.2)) rfl rfl ?_
      refine g_bipush C (gdec dt_X10_fan 20 rfl) bc_7 ?_
      obtain ⟨q6, hq6, hf⟩ := Option.bind_eq_some_iff.mp hf
      refine g_invV [.int q5.1, .int (7 : Int32)] [] C (c_X10_answerOrRefuse l D cA _ (gCi C) (gput w e_shX_shB_14 q5.2) q5.1 (7 : Int32) q6 hq6) kT_X10_answerOrRefuse kl_X10_252 kim_X10_answerOrRefuse kse_X10_answerOrRefuse rfl rfl (i := 0) rfl rfl ⟨by decide, by decide⟩ gk0 (Nat.le_of_ble_eq_true rfl) (gdec dt_X10_fan 21 rfl) rfl (st2 := [.int q6.1]) rfl ?_
      cases hf
      exact g_iret C rfl (gdec dt_X10_fan 22 rfl)
    · have hf := (if_pos hc4).symm.trans hf
      refine g_sub [0] (lo2 := [(0, .ref 0)]) rfl ?_
      exact L_X10_fan_21 C w hf
set_option maxHeartbeats 4000000 in
set_option maxRecDepth 100000 in
theorem c_X10_dust (l : Launch) (D : va_G) (cA ad : Nat → Nat) (hin : gInj ad shX.length) (w : GW) (x1 : Int32) (q : (Int32 × GW)) (hf : F_X10_dust x1 w = some q) : gMet l yX10_dust cX10_dust 2 (some .int) 3 163 D cA ad shX [.ref 0, .int x1] w (some (.int q.1)) q.2 := by
  refine g_entry (by decide) hin (Nat.le_of_ble_eq_true rfl) ?_
  intro p e s m args below meth c C
  unfold F_X10_dust at hf
  show gW p l e (gRm 3 163) s m args below meth c D cA ad shX 2 0 0 (gQ below D cA ad shX (some (.int q.1)) q.2 args s) 0 [(0, .ref 0), (1, .int x1)] [] w
  refine g_aload_n C (gdec dt_X10_dust 0 rfl) (i := 0) rfl rfl ?_
  refine g_getr C (j := 14) kf_X10_26 rfl rfl (gdec dt_X10_dust 1 rfl) ?_
  refine g_iload_n C (gdec dt_X10_dust 2 rfl) (i := 1) rfl rfl ?_
  obtain ⟨q1, hq1, hf⟩ := Option.bind_eq_some_iff.mp hf
  refine g_invVs e_shX_shB_14 [.int x1] [] C (c_X0_hasClerk l D cA _ (gInj_sub em_e_shX_shB_14 (gCi C)) (gsub w e_shX_shB_14) x1 q1 hq1) em_e_shX_shB_14 (by decide) rfl kT_X0_hasClerk kl_X10_266 kim_X0_hasClerk kse_X0_hasClerk rfl rfl (i := 14) rfl rfl ⟨by decide, by decide⟩ gk0 (Nat.le_of_ble_eq_true rfl) (gdec dt_X10_dust 3 rfl) rfl (st2 := [.int q1]) (w2 := w) rfl (gput_sub _ _) ?_
  refine g_if_ne C (tgt := 17) (gdec dt_X10_dust 4 rfl) (by decide) (fun hc2 => ?_) (fun hc2 => ?_)
  · have hf := (if_neg hc2).symm.trans hf
    refine g_aload_n C (gdec dt_X10_dust 9 rfl) (i := 0) rfl rfl ?_
    refine g_aload_n C (gdec dt_X10_dust 10 rfl) (i := 0) rfl rfl ?_
    refine g_getr C (j := 14) kf_X10_26 rfl rfl (gdec dt_X10_dust 11 rfl) ?_
    refine g_iload_n C (gdec dt_X10_dust 12 rfl) (i := 1) rfl rfl ?_
    obtain ⟨q3, hq3, hf⟩ := Option.bind_eq_some_iff.mp hf
    refine g_invVs e_shX_shB_14 [.int x1] [.ref 0] C (c_X0_wipe l D cA _ (gInj_sub em_e_shX_shB_14 (gCi C)) (gsub w e_shX_shB_14) x1 q3 hq3) em_e_shX_shB_14 (by decide) rfl kT_X0_wipe kl_X10_317 kim_X0_wipe kse_X0_wipe rfl rfl (i := 14) rfl rfl ⟨by decide, by decide⟩ gk0 (Nat.le_of_ble_eq_true rfl) (gdec dt_X10_dust 13 rfl) rfl (st2 := [.int q3.1, .ref 0]) (w2 := (gput w e_shX_shB_14 q3.2)) rfl rfl ?_
    refine g_bipush C (gdec dt_X10_dust 14 rfl) bc_7 ?_
    obtain ⟨q4, hq4, hf⟩ := Option.bind_eq_some_iff.mp hf
    refine g_invV [.int q3.1, .int (7 : Int32)] [] C (c_X10_answerOrRefuse l D cA _ (gCi C) (gput w e_shX_shB_14 q3.2) q3.1 (7 : Int32) q4 hq4) kT_X10_answerOrRefuse kl_X10_252 kim_X10_answerOrRefuse kse_X10_answerOrRefuse rfl rfl (i := 0) rfl rfl ⟨by decide, by decide⟩ gk0 (Nat.le_of_ble_eq_true rfl) (gdec dt_X10_dust 15 rfl) rfl (st2 := [.int q4.1]) rfl ?_
    cases hf
    exact g_iret C rfl (gdec dt_X10_dust 16 rfl)
  · have hf := (if_pos hc2).symm.trans hf
    refine g_aload_n C (gdec dt_X10_dust 5 rfl) (i := 0) rfl rfl ?_
    refine g_iconst C (gdec dt_X10_dust 6 rfl) ic_1 ?_
    obtain ⟨q5, hq5, hf⟩ := Option.bind_eq_some_iff.mp hf
    refine g_invV [.int (1 : Int32)] [] C (c_X10_refuse l D cA _ (gCi C) w (1 : Int32) q5 hq5) kT_X10_refuse kl_X10_110 kim_X10_refuse kse_X10_refuse rfl rfl (i := 0) rfl rfl ⟨by decide, by decide⟩ gk0 (Nat.le_of_ble_eq_true rfl) (gdec dt_X10_dust 7 rfl) rfl (st2 := [.int q5.1]) rfl ?_
    cases hf
    exact g_iret C rfl (gdec dt_X10_dust 8 rfl)
set_option maxHeartbeats 4000000 in
set_option maxRecDepth 100000 in
theorem c_X10_look (l : Launch) (D : va_G) (cA ad : Nat → Nat) (hin : gInj ad shX.length) (w : GW) (x1 : Int32) (q : (Int32 × GW)) (hf : F_X10_look x1 w = some q) : gMet l yX10_look cX10_look 2 (some .int) 3 163 D cA ad shX [.ref 0, .int x1] w (some (.int q.1)) q.2 := by
  refine g_entry (by decide) hin (Nat.le_of_ble_eq_true rfl) ?_
  intro p e s m args below meth c C
  unfold F_X10_look at hf
  show gW p l e (gRm 3 163) s m args below meth c D cA ad shX 2 0 0 (gQ below D cA ad shX (some (.int q.1)) q.2 args s) 0 [(0, .ref 0), (1, .int x1)] [] w
  refine g_aload_n C (gdec dt_X10_look 0 rfl) (i := 0) rfl rfl ?_
  refine g_getr C (j := 14) kf_X10_26 rfl rfl (gdec dt_X10_look 1 rfl) ?_
  refine g_iload_n C (gdec dt_X10_look 2 rfl) (i := 1) rfl rfl ?_
  obtain ⟨q1, hq1, hf⟩ := Option.bind_eq_some_iff.mp hf
  refine g_invVs e_shX_shB_14 [.int x1] [] C (c_X0_hasClerk l D cA _ (gInj_sub em_e_shX_shB_14 (gCi C)) (gsub w e_shX_shB_14) x1 q1 hq1) em_e_shX_shB_14 (by decide) rfl kT_X0_hasClerk kl_X10_266 kim_X0_hasClerk kse_X0_hasClerk rfl rfl (i := 14) rfl rfl ⟨by decide, by decide⟩ gk0 (Nat.le_of_ble_eq_true rfl) (gdec dt_X10_look 3 rfl) rfl (st2 := [.int q1]) (w2 := w) rfl (gput_sub _ _) ?_
  refine g_if_ne C (tgt := 17) (gdec dt_X10_look 4 rfl) (by decide) (fun hc2 => ?_) (fun hc2 => ?_)
  · have hf := (if_neg hc2).symm.trans hf
    refine g_aload_n C (gdec dt_X10_look 9 rfl) (i := 0) rfl rfl ?_
    refine g_aload_n C (gdec dt_X10_look 10 rfl) (i := 0) rfl rfl ?_
    refine g_getr C (j := 14) kf_X10_26 rfl rfl (gdec dt_X10_look 11 rfl) ?_
    refine g_iload_n C (gdec dt_X10_look 12 rfl) (i := 1) rfl rfl ?_
    obtain ⟨q3, hq3, hf⟩ := Option.bind_eq_some_iff.mp hf
    refine g_invVs e_shX_shB_14 [.int x1] [.ref 0] C (c_X0_exposeSham l D cA _ (gInj_sub em_e_shX_shB_14 (gCi C)) (gsub w e_shX_shB_14) x1 q3 hq3) em_e_shX_shB_14 (by decide) rfl kT_X0_exposeSham kl_X10_320 kim_X0_exposeSham kse_X0_exposeSham rfl rfl (i := 14) rfl rfl ⟨by decide, by decide⟩ gk0 (Nat.le_of_ble_eq_true rfl) (gdec dt_X10_look 13 rfl) rfl (st2 := [.int q3.1, .ref 0]) (w2 := (gput w e_shX_shB_14 q3.2)) rfl rfl ?_
    refine g_bipush C (gdec dt_X10_look 14 rfl) bc_7 ?_
    obtain ⟨q4, hq4, hf⟩ := Option.bind_eq_some_iff.mp hf
    refine g_invV [.int q3.1, .int (7 : Int32)] [] C (c_X10_answerOrRefuse l D cA _ (gCi C) (gput w e_shX_shB_14 q3.2) q3.1 (7 : Int32) q4 hq4) kT_X10_answerOrRefuse kl_X10_252 kim_X10_answerOrRefuse kse_X10_answerOrRefuse rfl rfl (i := 0) rfl rfl ⟨by decide, by decide⟩ gk0 (Nat.le_of_ble_eq_true rfl) (gdec dt_X10_look 15 rfl) rfl (st2 := [.int q4.1]) rfl ?_
    cases hf
    exact g_iret C rfl (gdec dt_X10_look 16 rfl)
  · have hf := (if_pos hc2).symm.trans hf
    refine g_aload_n C (gdec dt_X10_look 5 rfl) (i := 0) rfl rfl ?_
    refine g_iconst C (gdec dt_X10_look 6 rfl) ic_1 ?_
    obtain ⟨q5, hq5, hf⟩ := Option.bind_eq_some_iff.mp hf
    refine g_invV [.int (1 : Int32)] [] C (c_X10_refuse l D cA _ (gCi C) w (1 : Int32) q5 hq5) kT_X10_refuse kl_X10_110 kim_X10_refuse kse_X10_refuse rfl rfl (i := 0) rfl rfl ⟨by decide, by decide⟩ gk0 (Nat.le_of_ble_eq_true rfl) (gdec dt_X10_look 7 rfl) rfl (st2 := [.int q5.1]) rfl ?_
    cases hf
    exact g_iret C rfl (gdec dt_X10_look 8 rfl)
set_option maxHeartbeats 4000000 in
set_option maxRecDepth 100000 in
theorem c_X10_run (l : Launch) (D : va_G) (cA ad : Nat → Nat) (hin : gInj ad shX.length) (w : GW) (q : (Int32 × GW)) (hf : F_X10_run w = some q) : gMet l yX10_run cX10_run 1 (some .int) 3 171 D cA ad shX [.ref 0] w (some (.int q.1)) q.2 := by
  refine g_entry (by decide) hin (Nat.le_of_ble_eq_true rfl) ?_
  intro p e s m args below meth c C
  unfold F_X10_run at hf
  show gW p l e (gRm 3 171) s m args below meth c D cA ad shX 1 0 0 (gQ below D cA ad shX (some (.int q.1)) q.2 args s) 0 [(0, .ref 0)] [] w
  refine g_aload_n C (gdec dt_X10_run 0 rfl) (i := 0) rfl rfl ?_
  refine g_aload_n C (gdec dt_X10_run 1 rfl) (i := 0) rfl rfl ?_
  refine g_getr C (j := 14) kf_X10_26 rfl rfl (gdec dt_X10_run 2 rfl) ?_
  obtain ⟨q1, hq1, hf⟩ := Option.bind_eq_some_iff.mp hf
  refine g_invVs e_shX_shB_14 [] [.ref 0] C (c_X0_payComing l D cA _ (gInj_sub em_e_shX_shB_14 (gCi C)) (gsub w e_shX_shB_14)  q1 hq1) em_e_shX_shB_14 (by decide) rfl kT_X0_payComing kl_X10_323 kim_X0_payComing kse_X0_payComing rfl rfl (i := 14) rfl rfl ⟨by decide, by decide⟩ gk0 (Nat.le_of_ble_eq_true rfl) (gdec dt_X10_run 3 rfl) rfl (st2 := [.int q1.1, .ref 0]) (w2 := (gput w e_shX_shB_14 q1.2)) rfl rfl ?_
  refine g_bipush C (gdec dt_X10_run 4 rfl) bc_7 ?_
  obtain ⟨q2, hq2, hf⟩ := Option.bind_eq_some_iff.mp hf
  refine g_invV [.int q1.1, .int (7 : Int32)] [] C (c_X10_answerOrRefuse l D cA _ (gCi C) (gput w e_shX_shB_14 q1.2) q1.1 (7 : Int32) q2 hq2) kT_X10_answerOrRefuse kl_X10_252 kim_X10_answerOrRefuse kse_X10_answerOrRefuse rfl rfl (i := 0) rfl rfl ⟨by decide, by decide⟩ gk0 (Nat.le_of_ble_eq_true rfl) (gdec dt_X10_run 5 rfl) rfl (st2 := [.int q2.1]) rfl ?_
  cases hf
  exact g_iret C rfl (gdec dt_X10_run 6 rfl)
set_option maxHeartbeats 4000000 in
set_option maxRecDepth 100000 in
theorem c_X10_hire (l : Launch) (D : va_G) (cA ad : Nat → Nat) (hin : gInj ad shX.length) (w : GW) (x1 : Int32) (q : (Int32 × GW)) (hf : F_X10_hire x1 w = some q) : gMet l yX10_hire cX10_hire 2 (some .int) 2 143 D cA ad shX [.ref 0, .int x1] w (some (.int q.1)) q.2 := by
  refine g_entry (by decide) hin (Nat.le_of_ble_eq_true rfl) ?_
  intro p e s m args below meth c C
  unfold F_X10_hire at hf
  show gW p l e (gRm 2 143) s m args below meth c D cA ad shX 2 0 0 (gQ below D cA ad shX (some (.int q.1)) q.2 args s) 0 [(0, .ref 0), (1, .int x1)] [] w
  refine g_aload_n C (gdec dt_X10_hire 0 rfl) (i := 0) rfl rfl ?_
  refine g_getr C (j := 14) kf_X10_26 rfl rfl (gdec dt_X10_hire 1 rfl) ?_
  refine g_iload_n C (gdec dt_X10_hire 2 rfl) (i := 1) rfl rfl ?_
  obtain ⟨q1, hq1, hf⟩ := Option.bind_eq_some_iff.mp hf
  refine g_invVs e_shX_shB_14 [.int x1] [] C (c_X0_hasCorner l D cA _ (gInj_sub em_e_shX_shB_14 (gCi C)) (gsub w e_shX_shB_14) x1 q1 hq1) em_e_shX_shB_14 (by decide) rfl kT_X0_hasCorner kl_X10_242 kim_X0_hasCorner kse_X0_hasCorner rfl rfl (i := 14) rfl rfl ⟨by decide, by decide⟩ gk0 (Nat.le_of_ble_eq_true rfl) (gdec dt_X10_hire 3 rfl) rfl (st2 := [.int q1]) (w2 := w) rfl (gput_sub _ _) ?_
  refine g_if_ne C (tgt := 17) (gdec dt_X10_hire 4 rfl) (by decide) (fun hc2 => ?_) (fun hc2 => ?_)
  · have hf := (if_neg hc2).symm.trans hf
    refine g_aload_n C (gdec dt_X10_hire 9 rfl) (i := 0) rfl rfl ?_
    refine g_getr C (j := 14) kf_X10_26 rfl rfl (gdec dt_X10_hire 10 rfl) ?_
    refine g_geti C kf_X10_190 rfl rfl (gdec dt_X10_hire 11 rfl) ?_
    refine g_bipush C (gdec dt_X10_hire 12 rfl) bc_6 ?_
    refine g_icmp_lt C (tgt := 35) (gdec dt_X10_hire 13 rfl) (by decide) (fun hc3 => ?_) (fun hc3 => ?_)
    · have hf := (if_pos hc3).symm.trans hf
      refine g_aload_n C (gdec dt_X10_hire 18 rfl) (i := 0) rfl rfl ?_
      refine g_getr C (j := 14) kf_X10_26 rfl rfl (gdec dt_X10_hire 19 rfl) ?_
      refine g_iload_n C (gdec dt_X10_hire 20 rfl) (i := 1) rfl rfl ?_
      obtain ⟨q4, hq4, hf⟩ := Option.bind_eq_some_iff.mp hf
      refine g_invVs e_shX_shB_14 [.int x1] [] C (c_X0_sitterIn l D cA _ (gInj_sub em_e_shX_shB_14 (gCi C)) (gsub w e_shX_shB_14) x1 q4 hq4) em_e_shX_shB_14 (by decide) rfl kT_X0_sitterIn kl_X10_249 kim_X0_sitterIn kse_X0_sitterIn rfl rfl (i := 14) rfl rfl ⟨by decide, by decide⟩ gk0 (Nat.le_of_ble_eq_true rfl) (gdec dt_X10_hire 21 rfl) rfl (st2 := [.int q4]) (w2 := w) rfl (gput_sub _ _) ?_
      refine g_iconst C (gdec dt_X10_hire 22 rfl) ic_m1 ?_
      refine g_icmp_eq C (tgt := 54) (gdec dt_X10_hire 23 rfl) (by decide) (fun hc5 => ?_) (fun hc5 => ?_)
      · have hf := (if_pos hc5).symm.trans hf
        refine g_aload_n C (gdec dt_X10_hire 28 rfl) (i := 0) rfl rfl ?_
        refine g_aload_n C (gdec dt_X10_hire 29 rfl) (i := 0) rfl rfl ?_
        refine g_getr C (j := 14) kf_X10_26 rfl rfl (gdec dt_X10_hire 30 rfl) ?_
        refine g_lconst C (gdec dt_X10_hire 31 rfl) lc_0 ?_
        refine g_iload_n C (gdec dt_X10_hire 32 rfl) (i := 1) rfl rfl ?_
        obtain ⟨q6, hq6, hf⟩ := Option.bind_eq_some_iff.mp hf
        refine g_invVs e_shX_shB_14 [.long (0 : Int64), .int x1] [.ref 0] C (c_X0_addClerk l D cA _ (gInj_sub em_e_shX_shB_14 (gCi C)) (gsub w e_shX_shB_14) (0 : Int64) x1 q6 hq6) em_e_shX_shB_14 (by decide) rfl kT_X0_addClerk kl_X10_326 kim_X0_addClerk kse_X0_addClerk rfl rfl (i := 14) rfl rfl ⟨by decide, by decide⟩ gk0 (Nat.le_of_ble_eq_true rfl) (gdec dt_X10_hire 33 rfl) rfl (st2 := [.int q6.1, .ref 0]) (w2 := (gput w e_shX_shB_14 q6.2)) rfl rfl ?_
        obtain ⟨q7, hq7, hf⟩ := Option.bind_eq_some_iff.mp hf
        refine g_invV [.int q6.1] [] C (c_X10_answer l D cA _ (gCi C) (gput w e_shX_shB_14 q6.2) q6.1 q7 hq7) kT_X10_answer kl_X10_114 kim_X10_answer kse_X10_answer rfl rfl (i := 0) rfl rfl ⟨by decide, by decide⟩ gk0 (Nat.le_of_ble_eq_true rfl) (gdec dt_X10_hire 34 rfl) rfl (st2 := [.int q7.1]) rfl ?_
        cases hf
        exact g_iret C rfl (gdec dt_X10_hire 35 rfl)
      · have hf := (if_neg hc5).symm.trans hf
        refine g_aload_n C (gdec dt_X10_hire 24 rfl) (i := 0) rfl rfl ?_
        refine g_bipush C (gdec dt_X10_hire 25 rfl) bc_7 ?_
        obtain ⟨q8, hq8, hf⟩ := Option.bind_eq_some_iff.mp hf
        refine g_invV [.int (7 : Int32)] [] C (c_X10_refuse l D cA _ (gCi C) w (7 : Int32) q8 hq8) kT_X10_refuse kl_X10_110 kim_X10_refuse kse_X10_refuse rfl rfl (i := 0) rfl rfl ⟨by decide, by decide⟩ gk0 (Nat.le_of_ble_eq_true rfl) (gdec dt_X10_hire 26 rfl) rfl (st2 := [.int q8.1]) rfl ?_
        cases hf
        exact g_iret C rfl (gdec dt_X10_hire 27 rfl)
    · have hf := (if_neg hc3).symm.trans hf
      refine g_aload_n C (gdec dt_X10_hire 14 rfl) (i := 0) rfl rfl ?_
      refine g_iconst C (gdec dt_X10_hire 15 rfl) ic_4 ?_
      obtain ⟨q9, hq9, hf⟩ := Option.bind_eq_some_iff.mp hf
      refine g_invV [.int (4 : Int32)] [] C (c_X10_refuse l D cA _ (gCi C) w (4 : Int32) q9 hq9) kT_X10_refuse kl_X10_110 kim_X10_refuse kse_X10_refuse rfl rfl (i := 0) rfl rfl ⟨by decide, by decide⟩ gk0 (Nat.le_of_ble_eq_true rfl) (gdec dt_X10_hire 16 rfl) rfl (st2 := [.int q9.1]) rfl ?_
      cases hf
      exact g_iret C rfl (gdec dt_X10_hire 17 rfl)
  · have hf := (if_pos hc2).symm.trans hf
    refine g_aload_n C (gdec dt_X10_hire 5 rfl) (i := 0) rfl rfl ?_
    refine g_iconst C (gdec dt_X10_hire 6 rfl) ic_1 ?_
    obtain ⟨q10, hq10, hf⟩ := Option.bind_eq_some_iff.mp hf
    refine g_invV [.int (1 : Int32)] [] C (c_X10_refuse l D cA _ (gCi C) w (1 : Int32) q10 hq10) kT_X10_refuse kl_X10_110 kim_X10_refuse kse_X10_refuse rfl rfl (i := 0) rfl rfl ⟨by decide, by decide⟩ gk0 (Nat.le_of_ble_eq_true rfl) (gdec dt_X10_hire 7 rfl) rfl (st2 := [.int q10.1]) rfl ?_
    cases hf
    exact g_iret C rfl (gdec dt_X10_hire 8 rfl)
set_option maxHeartbeats 4000000 in
set_option maxRecDepth 100000 in
theorem L_X10_open_21 {p : Program} {l : Launch} {e : Env} {s : State} {m : MethodId} {args : Array Value} {below : List Frame} {meth : Method} {c : Code} {D : va_G} {cA ad : Nat → Nat} {q : (Int32 × GW)} (C : gC p c cX10_open meth m s args 3 (some .int) RX10 D cA ad shX) (w : GW) (hf : f_X10_open_21 w = some q) : gW p l e (gRm 2 142) s m args below meth c D cA ad shX 3 0 0 (gQ below D cA ad shX (some (.int q.1)) q.2 args s) 21 [(0, .ref 0)] [] w := by
  unfold f_X10_open_21 at hf
  refine g_aload_n C (gdec dt_X10_open 10 rfl) (i := 0) rfl rfl ?_
  refine g_iconst C (gdec dt_X10_open 11 rfl) ic_1 ?_
  obtain ⟨q9, hq9, hf⟩ := Option.bind_eq_some_iff.mp hf
  refine g_invV [.int (1 : Int32)] [] C (c_X10_refuse l D cA _ (gCi C) w (1 : Int32) q9 hq9) kT_X10_refuse kl_X10_110 kim_X10_refuse kse_X10_refuse rfl rfl (i := 0) rfl rfl ⟨by decide, by decide⟩ gk0 (Nat.le_of_ble_eq_true rfl) (gdec dt_X10_open 12 rfl) rfl (st2 := [.int q9.1]) rfl ?_
  cases hf
  exact g_iret C rfl (gdec dt_X10_open 13 rfl)
set_option maxHeartbeats 4000000 in
set_option maxRecDepth 100000 in
theorem c_X10_open (l : Launch) (D : va_G) (cA ad : Nat → Nat) (hin : gInj ad shX.length) (w : GW) (x1 : Int32) (x2 : Int32) (q : (Int32 × GW)) (hf : F_X10_open x1 x2 w = some q) : gMet l yX10_open cX10_open 3 (some .int) 2 142 D cA ad shX [.ref 0, .int x1, .int x2] w (some (.int q.1)) q.2 := by
  refine g_entry (by decide) hin (Nat.le_of_ble_eq_true rfl) ?_
  intro p e s m args below meth c C
  unfold F_X10_open at hf
  show gW p l e (gRm 2 142) s m args below meth c D cA ad shX 3 0 0 (gQ below D cA ad shX (some (.int q.1)) q.2 args s) 0 [(0, .ref 0), (1, .int x1), (2, .int x2)] [] w
  refine g_iload_n C (gdec dt_X10_open 0 rfl) (i := 1) rfl rfl ?_
  refine g_iconst C (gdec dt_X10_open 1 rfl) ic_1 ?_
  refine g_bipush C (gdec dt_X10_open 2 rfl) bc_99 ?_
  obtain ⟨q1, hq1, hf⟩ := Option.bind_eq_some_iff.mp hf
  refine g_invSs e_nil [.int x1, .int (1 : Int32), .int (99 : Int32)] [] C (c_X10_between l D cA _ (gInj_sub em_e_nil_shX (gCi C)) (gsub w e_nil) x1 (1 : Int32) (99 : Int32) q1 hq1) em_e_nil_shX (by decide) rfl kT_X10_between kl_X10_126 kst_X10_between rfl rfl ⟨by decide, by decide⟩ gk0 (Nat.le_of_ble_eq_true rfl) (gdec dt_X10_open 3 rfl) rfl (st2 := [.int q1]) (w2 := w) rfl (gput_sub _ _) ?_
  refine g_if_eq C (tgt := 21) (gdec dt_X10_open 4 rfl) (by decide) (fun hc2 => ?_) (fun hc2 => ?_)
  · have hf := (if_pos hc2).symm.trans hf
    refine g_sub [0] (lo2 := [(0, .ref 0)]) rfl ?_
    exact L_X10_open_21 C w hf
  · have hf := (if_neg hc2).symm.trans hf
    refine g_iload_n C (gdec dt_X10_open 5 rfl) (i := 2) rfl rfl ?_
    refine g_iconst C (gdec dt_X10_open 6 rfl) ic_0 ?_
    refine g_sipush C (gdec dt_X10_open 7 rfl) sc_999 ?_
    obtain ⟨q3, hq3, hf⟩ := Option.bind_eq_some_iff.mp hf
    refine g_invSs e_nil [.int x2, .int (0 : Int32), .int (999 : Int32)] [] C (c_X10_between l D cA _ (gInj_sub em_e_nil_shX (gCi C)) (gsub w e_nil) x2 (0 : Int32) (999 : Int32) q3 hq3) em_e_nil_shX (by decide) rfl kT_X10_between kl_X10_126 kst_X10_between rfl rfl ⟨by decide, by decide⟩ gk0 (Nat.le_of_ble_eq_true rfl) (gdec dt_X10_open 8 rfl) rfl (st2 := [.int q3]) (w2 := w) rfl (gput_sub _ _) ?_
    refine g_if_ne C (tgt := 27) (gdec dt_X10_open 9 rfl) (by decide) (fun hc4 => ?_) (fun hc4 => ?_)
    · have hf := (if_neg hc4).symm.trans hf
      refine g_aload_n C (gdec dt_X10_open 14 rfl) (i := 0) rfl rfl ?_
      refine g_getr C (j := 14) kf_X10_26 rfl rfl (gdec dt_X10_open 15 rfl) ?_
      refine g_geti C kf_X10_217 rfl rfl (gdec dt_X10_open 16 rfl) ?_
      refine g_bipush C (gdec dt_X10_open 17 rfl) bc_8 ?_
      refine g_icmp_lt C (tgt := 45) (gdec dt_X10_open 18 rfl) (by decide) (fun hc5 => ?_) (fun hc5 => ?_)
      · have hf := (if_pos hc5).symm.trans hf
        refine g_aload_n C (gdec dt_X10_open 23 rfl) (i := 0) rfl rfl ?_
        refine g_getr C (j := 14) kf_X10_26 rfl rfl (gdec dt_X10_open 24 rfl) ?_
        refine g_sipush C (gdec dt_X10_open 25 rfl) sc_9999 ?_
        refine g_aload_n C (gdec dt_X10_open 26 rfl) (i := 0) rfl rfl ?_
        refine g_getr C (j := 14) kf_X10_26 rfl rfl (gdec dt_X10_open 27 rfl) ?_
        refine g_geti C kf_X10_223 rfl rfl (gdec dt_X10_open 28 rfl) ?_
        refine g_iload_n C (gdec dt_X10_open 29 rfl) (i := 1) rfl rfl ?_
        refine g_iadd C (gdec dt_X10_open 30 rfl) ?_
        refine g_mmin C (gdec dt_X10_open 31 rfl) kl_X10_330 kst_min ki_Math kc_Mmin (Nat.le_of_ble_eq_true rfl) ⟨by decide, by decide⟩ gk0 ?_
        refine g_puti C kf_X10_223 rfl rfl (gdec dt_X10_open 32 rfl) ?_
        refine g_aload_n C (gdec dt_X10_open 33 rfl) (i := 0) rfl rfl ?_
        refine g_aload_n C (gdec dt_X10_open 34 rfl) (i := 0) rfl rfl ?_
        refine g_getr C (j := 14) kf_X10_26 rfl rfl (gdec dt_X10_open 35 rfl) ?_
        refine g_iload_n C (gdec dt_X10_open 36 rfl) (i := 1) rfl rfl ?_
        refine g_iload_n C (gdec dt_X10_open 37 rfl) (i := 2) rfl rfl ?_
        obtain ⟨q6, hq6, hf⟩ := Option.bind_eq_some_iff.mp hf
        refine g_invVs e_shX_shB_14 [.int x1, .int x2] [.ref 0] C (c_X0_addClient l D cA _ (gInj_sub em_e_shX_shB_14 (gCi C)) (gsub (gI w 14 1 (imin (9999 : Int32) ((w.1 14 1) + x1))) e_shX_shB_14) x1 x2 q6 hq6) em_e_shX_shB_14 (by decide) rfl kT_X0_addClient kl_X10_335 kim_X0_addClient kse_X0_addClient rfl rfl (i := 14) rfl rfl ⟨by decide, by decide⟩ gk0 (Nat.le_of_ble_eq_true rfl) (gdec dt_X10_open 38 rfl) rfl (st2 := [.int q6.1, .ref 0]) (w2 := (gput (gI w 14 1 (imin (9999 : Int32) ((w.1 14 1) + x1))) e_shX_shB_14 q6.2)) rfl rfl ?_
        obtain ⟨q7, hq7, hf⟩ := Option.bind_eq_some_iff.mp hf
        refine g_invV [.int q6.1] [] C (c_X10_answer l D cA _ (gCi C) (gput (gI w 14 1 (imin (9999 : Int32) ((w.1 14 1) + x1))) e_shX_shB_14 q6.2) q6.1 q7 hq7) kT_X10_answer kl_X10_114 kim_X10_answer kse_X10_answer rfl rfl (i := 0) rfl rfl ⟨by decide, by decide⟩ gk0 (Nat.le_of_ble_eq_true rfl) (gdec dt_X10_open 39 rfl) rfl (st2 := [.int q7.1]) rfl ?_
        cases hf
        exact g_iret C rfl (gdec dt_X10_open 40 rfl)
      · have hf := (if_neg hc5).symm.trans hf
        refine g_aload_n C (gdec dt_X10_open 19 rfl) (i := 0) rfl rfl ?_
        refine g_iconst C (gdec dt_X10_open 20 rfl) ic_4 ?_
        obtain ⟨q8, hq8, hf⟩ := Option.bind_eq_some_iff.mp hf
        refine g_invV [.int (4 : Int32)] [] C (c_X10_refuse l D cA _ (gCi C) w (4 : Int32) q8 hq8) kT_X10_refuse kl_X10_110 kim_X10_refuse kse_X10_refuse rfl rfl (i := 0) rfl rfl ⟨by decide, by decide⟩ gk0 (Nat.le_of_ble_eq_true rfl) (gdec dt_X10_open 21 rfl) rfl (st2 := [.int q8.1]) rfl ?_
        cases hf
        exact g_iret C rfl (gdec dt_X10_open 22 rfl)
    · have hf := (if_pos hc4).symm.trans hf
      refine g_sub [0] (lo2 := [(0, .ref 0)]) rfl ?_
      exact L_X10_open_21 C w hf
set_option maxHeartbeats 4000000 in
set_option maxRecDepth 100000 in
theorem L_X10_calm_21 {p : Program} {l : Launch} {e : Env} {s : State} {m : MethodId} {args : Array Value} {below : List Frame} {meth : Method} {c : Code} {D : va_G} {cA ad : Nat → Nat} {q : (Int32 × GW)} (C : gC p c cX10_calm meth m s args 4 (some .int) RX10 D cA ad shX) (w : GW) (hf : f_X10_calm_21 w = some q) : gW p l e (gRm 2 142) s m args below meth c D cA ad shX 4 0 0 (gQ below D cA ad shX (some (.int q.1)) q.2 args s) 21 [(0, .ref 0)] [] w := by
  unfold f_X10_calm_21 at hf
  refine g_aload_n C (gdec dt_X10_calm 10 rfl) (i := 0) rfl rfl ?_
  refine g_iconst C (gdec dt_X10_calm 11 rfl) ic_1 ?_
  obtain ⟨q7, hq7, hf⟩ := Option.bind_eq_some_iff.mp hf
  refine g_invV [.int (1 : Int32)] [] C (c_X10_refuse l D cA _ (gCi C) w (1 : Int32) q7 hq7) kT_X10_refuse kl_X10_110 kim_X10_refuse kse_X10_refuse rfl rfl (i := 0) rfl rfl ⟨by decide, by decide⟩ gk0 (Nat.le_of_ble_eq_true rfl) (gdec dt_X10_calm 12 rfl) rfl (st2 := [.int q7.1]) rfl ?_
  cases hf
  exact g_iret C rfl (gdec dt_X10_calm 13 rfl)
set_option maxHeartbeats 4000000 in
set_option maxRecDepth 100000 in
theorem c_X10_calm (l : Launch) (D : va_G) (cA ad : Nat → Nat) (hin : gInj ad shX.length) (w : GW) (x1 : Int32) (x2 : Int32) (q : (Int32 × GW)) (hf : F_X10_calm x1 x2 w = some q) : gMet l yX10_calm cX10_calm 4 (some .int) 2 142 D cA ad shX [.ref 0, .int x1, .int x2] w (some (.int q.1)) q.2 := by
  refine g_entry (by decide) hin (Nat.le_of_ble_eq_true rfl) ?_
  intro p e s m args below meth c C
  unfold F_X10_calm at hf
  show gW p l e (gRm 2 142) s m args below meth c D cA ad shX 4 0 0 (gQ below D cA ad shX (some (.int q.1)) q.2 args s) 0 [(0, .ref 0), (1, .int x1), (2, .int x2)] [] w
  refine g_aload_n C (gdec dt_X10_calm 0 rfl) (i := 0) rfl rfl ?_
  refine g_getr C (j := 14) kf_X10_26 rfl rfl (gdec dt_X10_calm 1 rfl) ?_
  refine g_iload_n C (gdec dt_X10_calm 2 rfl) (i := 1) rfl rfl ?_
  obtain ⟨q1, hq1, hf⟩ := Option.bind_eq_some_iff.mp hf
  refine g_invVs e_shX_shB_14 [.int x1] [] C (c_X0_hasCorner l D cA _ (gInj_sub em_e_shX_shB_14 (gCi C)) (gsub w e_shX_shB_14) x1 q1 hq1) em_e_shX_shB_14 (by decide) rfl kT_X0_hasCorner kl_X10_242 kim_X0_hasCorner kse_X0_hasCorner rfl rfl (i := 14) rfl rfl ⟨by decide, by decide⟩ gk0 (Nat.le_of_ble_eq_true rfl) (gdec dt_X10_calm 3 rfl) rfl (st2 := [.int q1]) (w2 := w) rfl (gput_sub _ _) ?_
  refine g_if_eq C (tgt := 21) (gdec dt_X10_calm 4 rfl) (by decide) (fun hc2 => ?_) (fun hc2 => ?_)
  · have hf := (if_pos hc2).symm.trans hf
    refine g_sub [0] (lo2 := [(0, .ref 0)]) rfl ?_
    exact L_X10_calm_21 C w hf
  · have hf := (if_neg hc2).symm.trans hf
    refine g_iload_n C (gdec dt_X10_calm 5 rfl) (i := 2) rfl rfl ?_
    refine g_iconst C (gdec dt_X10_calm 6 rfl) ic_0 ?_
    refine g_bipush C (gdec dt_X10_calm 7 rfl) bc_9 ?_
    obtain ⟨q3, hq3, hf⟩ := Option.bind_eq_some_iff.mp hf
    refine g_invSs e_nil [.int x2, .int (0 : Int32), .int (9 : Int32)] [] C (c_X10_between l D cA _ (gInj_sub em_e_nil_shX (gCi C)) (gsub w e_nil) x2 (0 : Int32) (9 : Int32) q3 hq3) em_e_nil_shX (by decide) rfl kT_X10_between kl_X10_126 kst_X10_between rfl rfl ⟨by decide, by decide⟩ gk0 (Nat.le_of_ble_eq_true rfl) (gdec dt_X10_calm 8 rfl) rfl (st2 := [.int q3]) (w2 := w) rfl (gput_sub _ _) ?_
    refine g_if_ne C (tgt := 27) (gdec dt_X10_calm 9 rfl) (by decide) (fun hc4 => ?_) (fun hc4 => ?_)
    · have hf := (if_neg hc4).symm.trans hf
      refine g_aload_n C (gdec dt_X10_calm 14 rfl) (i := 0) rfl rfl ?_
      refine g_getr C (j := 14) kf_X10_26 rfl rfl (gdec dt_X10_calm 15 rfl) ?_
      refine g_getr C (j := 15) kf_X10_245 rfl rfl (gdec dt_X10_calm 16 rfl) ?_
      refine g_iload_n C (gdec dt_X10_calm 17 rfl) (i := 1) rfl rfl ?_
      obtain ⟨hg5, hf⟩ := gif hf
      refine g_iald C (i := 15) rfl hg5 rfl (gdec dt_X10_calm 18 rfl) ?_
      refine g_istore_n C (gdec dt_X10_calm 19 rfl) (i := 3) rfl (by decide) (lo2 := [(3, .int (w.1 15 x1.toNatClampNeg)), (0, .ref 0), (1, .int x1), (2, .int x2)]) rfl ?_
      refine g_aload_n C (gdec dt_X10_calm 20 rfl) (i := 0) rfl rfl ?_
      refine g_getr C (j := 14) kf_X10_26 rfl rfl (gdec dt_X10_calm 21 rfl) ?_
      refine g_getr C (j := 15) kf_X10_245 rfl rfl (gdec dt_X10_calm 22 rfl) ?_
      refine g_iload_n C (gdec dt_X10_calm 23 rfl) (i := 1) rfl rfl ?_
      refine g_iload_n C (gdec dt_X10_calm 24 rfl) (i := 2) rfl rfl ?_
      refine g_iast C (i := 15) rfl hg5 rfl (gdec dt_X10_calm 25 rfl) ?_
      refine g_aload_n C (gdec dt_X10_calm 26 rfl) (i := 0) rfl rfl ?_
      refine g_iload_n C (gdec dt_X10_calm 27 rfl) (i := 3) rfl rfl ?_
      obtain ⟨q6, hq6, hf⟩ := Option.bind_eq_some_iff.mp hf
      refine g_invV [.int (w.1 15 x1.toNatClampNeg)] [] C (c_X10_answer l D cA _ (gCi C) (gI w 15 x1.toNatClampNeg x2) (w.1 15 x1.toNatClampNeg) q6 hq6) kT_X10_answer kl_X10_114 kim_X10_answer kse_X10_answer rfl rfl (i := 0) rfl rfl ⟨by decide, by decide⟩ gk0 (Nat.le_of_ble_eq_true rfl) (gdec dt_X10_calm 28 rfl) rfl (st2 := [.int q6.1]) rfl ?_
      cases hf
      exact g_iret C rfl (gdec dt_X10_calm 29 rfl)
    · have hf := (if_pos hc4).symm.trans hf
      refine g_sub [0] (lo2 := [(0, .ref 0)]) rfl ?_
      exact L_X10_calm_21 C w hf
set_option maxHeartbeats 4000000 in
set_option maxRecDepth 100000 in
theorem L_X10_rule_57 {p : Program} {l : Launch} {e : Env} {s : State} {m : MethodId} {args : Array Value} {below : List Frame} {meth : Method} {c : Code} {D : va_G} {cA ad : Nat → Nat} {q : (Int32 × GW)} (C : gC p c cX10_rule meth m s args 3 (some .boolean) RX10 D cA ad shX) (w : GW) (hf : f_X10_rule_57 w = some q) : gW p l e (gRm 2 142) s m args below meth c D cA ad shX 3 0 0 (gQ below D cA ad shX (some (.int q.1)) q.2 args s) 57 [(0, .ref 0)] [] w := by
  unfold f_X10_rule_57 at hf
  refine g_aload_n C (gdec dt_X10_rule 30 rfl) (i := 0) rfl rfl ?_
  refine g_iconst C (gdec dt_X10_rule 31 rfl) ic_1 ?_
  obtain ⟨q11, hq11, hf⟩ := Option.bind_eq_some_iff.mp hf
  refine g_invV [.int (1 : Int32)] [] C (c_X10_deny l D cA _ (gCi C) w (1 : Int32) q11 hq11) kT_X10_deny kl_X10_134 kim_X10_deny kse_X10_deny rfl rfl (i := 0) rfl rfl ⟨by decide, by decide⟩ gk0 (Nat.le_of_ble_eq_true rfl) (gdec dt_X10_rule 32 rfl) rfl (st2 := [.int q11.1]) rfl ?_
  obtain ⟨hb12, hf⟩ := gif hf
  cases hf
  exact g_zret C hb12 rfl (gdec dt_X10_rule 33 rfl)
set_option maxHeartbeats 4000000 in
set_option maxRecDepth 100000 in
theorem L_X10_rule_28 {p : Program} {l : Launch} {e : Env} {s : State} {m : MethodId} {args : Array Value} {below : List Frame} {meth : Method} {c : Code} {D : va_G} {cA ad : Nat → Nat} {q : (Int32 × GW)} (C : gC p c cX10_rule meth m s args 3 (some .boolean) RX10 D cA ad shX) (x1 : Int32) (x2 : Int32) (w : GW) (hf : f_X10_rule_28 x1 x2 w = some q) : gW p l e (gRm 2 142) s m args below meth c D cA ad shX 3 0 0 (gQ below D cA ad shX (some (.int q.1)) q.2 args s) 28 [(0, .ref 0), (1, .int x1), (2, .int x2)] [] w := by
  unfold f_X10_rule_28 at hf
  refine g_iload_n C (gdec dt_X10_rule 15 rfl) (i := 1) rfl rfl ?_
  refine g_iconst C (gdec dt_X10_rule 16 rfl) ic_5 ?_
  refine g_icmp_ne C (tgt := 57) (gdec dt_X10_rule 17 rfl) (by decide) (fun hc6 => ?_) (fun hc6 => ?_)
  · have hf := (if_neg hc6).symm.trans hf
    refine g_sub [0] (lo2 := [(0, .ref 0)]) rfl ?_
    exact L_X10_rule_57 C w hf
  · have hf := (if_pos hc6).symm.trans hf
    refine g_iload_n C (gdec dt_X10_rule 18 rfl) (i := 2) rfl rfl ?_
    refine g_iconst C (gdec dt_X10_rule 19 rfl) ic_0 ?_
    refine g_sipush C (gdec dt_X10_rule 20 rfl) sc_9999 ?_
    obtain ⟨q7, hq7, hf⟩ := Option.bind_eq_some_iff.mp hf
    refine g_invSs e_nil [.int x2, .int (0 : Int32), .int (9999 : Int32)] [] C (c_X10_between l D cA _ (gInj_sub em_e_nil_shX (gCi C)) (gsub w e_nil) x2 (0 : Int32) (9999 : Int32) q7 hq7) em_e_nil_shX (by decide) rfl kT_X10_between kl_X10_126 kst_X10_between rfl rfl ⟨by decide, by decide⟩ gk0 (Nat.le_of_ble_eq_true rfl) (gdec dt_X10_rule 21 rfl) rfl (st2 := [.int q7]) (w2 := w) rfl (gput_sub _ _) ?_
    refine g_if_eq C (tgt := 57) (gdec dt_X10_rule 22 rfl) (by decide) (fun hc8 => ?_) (fun hc8 => ?_)
    · have hf := (if_pos hc8).symm.trans hf
      refine g_sub [0] (lo2 := [(0, .ref 0)]) rfl ?_
      exact L_X10_rule_57 C w hf
    · have hf := (if_neg hc8).symm.trans hf
      refine g_aload_n C (gdec dt_X10_rule 23 rfl) (i := 0) rfl rfl ?_
      refine g_getr C (j := 14) kf_X10_26 rfl rfl (gdec dt_X10_rule 24 rfl) ?_
      refine g_iload_n C (gdec dt_X10_rule 25 rfl) (i := 2) rfl rfl ?_
      refine g_puti C kf_X10_223 rfl rfl (gdec dt_X10_rule 26 rfl) ?_
      refine g_aload_n C (gdec dt_X10_rule 27 rfl) (i := 0) rfl rfl ?_
      obtain ⟨q9, hq9, hf⟩ := Option.bind_eq_some_iff.mp hf
      refine g_invV [] [] C (c_X10_grant l D cA _ (gCi C) (gI w 14 1 x2)  q9 hq9) kT_X10_grant kl_X10_117 kim_X10_grant kse_X10_grant rfl rfl (i := 0) rfl rfl ⟨by decide, by decide⟩ gk0 (Nat.le_of_ble_eq_true rfl) (gdec dt_X10_rule 28 rfl) rfl (st2 := [.int q9.1]) rfl ?_
      obtain ⟨hb10, hf⟩ := gif hf
      cases hf
      exact g_zret C hb10 rfl (gdec dt_X10_rule 29 rfl)
set_option maxHeartbeats 4000000 in
set_option maxRecDepth 100000 in
theorem c_X10_rule (l : Launch) (D : va_G) (cA ad : Nat → Nat) (hin : gInj ad shX.length) (w : GW) (x1 : Int32) (x2 : Int32) (q : (Int32 × GW)) (hf : F_X10_rule x1 x2 w = some q) : gMet l yX10_rule cX10_rule 3 (some .boolean) 2 142 D cA ad shX [.ref 0, .int x1, .int x2] w (some (.int q.1)) q.2 := by
  refine g_entry (by decide) hin (Nat.le_of_ble_eq_true rfl) ?_
  intro p e s m args below meth c C
  unfold F_X10_rule at hf
  show gW p l e (gRm 2 142) s m args below meth c D cA ad shX 3 0 0 (gQ below D cA ad shX (some (.int q.1)) q.2 args s) 0 [(0, .ref 0), (1, .int x1), (2, .int x2)] [] w
  refine g_iload_n C (gdec dt_X10_rule 0 rfl) (i := 1) rfl rfl ?_
  refine g_iconst C (gdec dt_X10_rule 1 rfl) ic_4 ?_
  refine g_icmp_ne C (tgt := 28) (gdec dt_X10_rule 2 rfl) (by decide) (fun hc1 => ?_) (fun hc1 => ?_)
  · have hf := (if_neg hc1).symm.trans hf
    refine g_sub [0, 1, 2] (lo2 := [(0, .ref 0), (1, .int x1), (2, .int x2)]) rfl ?_
    exact L_X10_rule_28 C x1 x2 w hf
  · have hf := (if_pos hc1).symm.trans hf
    refine g_iload_n C (gdec dt_X10_rule 3 rfl) (i := 2) rfl rfl ?_
    refine g_iconst C (gdec dt_X10_rule 4 rfl) ic_0 ?_
    refine g_bipush C (gdec dt_X10_rule 5 rfl) bc_16 ?_
    obtain ⟨q2, hq2, hf⟩ := Option.bind_eq_some_iff.mp hf
    refine g_invSs e_nil [.int x2, .int (0 : Int32), .int (16 : Int32)] [] C (c_X10_between l D cA _ (gInj_sub em_e_nil_shX (gCi C)) (gsub w e_nil) x2 (0 : Int32) (16 : Int32) q2 hq2) em_e_nil_shX (by decide) rfl kT_X10_between kl_X10_126 kst_X10_between rfl rfl ⟨by decide, by decide⟩ gk0 (Nat.le_of_ble_eq_true rfl) (gdec dt_X10_rule 6 rfl) rfl (st2 := [.int q2]) (w2 := w) rfl (gput_sub _ _) ?_
    refine g_if_eq C (tgt := 28) (gdec dt_X10_rule 7 rfl) (by decide) (fun hc3 => ?_) (fun hc3 => ?_)
    · have hf := (if_pos hc3).symm.trans hf
      refine g_sub [0, 1, 2] (lo2 := [(0, .ref 0), (1, .int x1), (2, .int x2)]) rfl ?_
      exact L_X10_rule_28 C x1 x2 w hf
    · have hf := (if_neg hc3).symm.trans hf
      refine g_aload_n C (gdec dt_X10_rule 8 rfl) (i := 0) rfl rfl ?_
      refine g_getr C (j := 14) kf_X10_26 rfl rfl (gdec dt_X10_rule 9 rfl) ?_
      refine g_iload_n C (gdec dt_X10_rule 10 rfl) (i := 2) rfl rfl ?_
      refine g_puti C kf_X10_220 rfl rfl (gdec dt_X10_rule 11 rfl) ?_
      refine g_aload_n C (gdec dt_X10_rule 12 rfl) (i := 0) rfl rfl ?_
      obtain ⟨q4, hq4, hf⟩ := Option.bind_eq_some_iff.mp hf
      refine g_invV [] [] C (c_X10_grant l D cA _ (gCi C) (gI w 14 0 x2)  q4 hq4) kT_X10_grant kl_X10_117 kim_X10_grant kse_X10_grant rfl rfl (i := 0) rfl rfl ⟨by decide, by decide⟩ gk0 (Nat.le_of_ble_eq_true rfl) (gdec dt_X10_rule 13 rfl) rfl (st2 := [.int q4.1]) rfl ?_
      obtain ⟨hb5, hf⟩ := gif hf
      cases hf
      exact g_zret C hb5 rfl (gdec dt_X10_rule 14 rfl)
set_option maxHeartbeats 4000000 in
set_option maxRecDepth 100000 in
theorem L_X10_greyIn_19 {p : Program} {l : Launch} {e : Env} {s : State} {m : MethodId} {args : Array Value} {below : List Frame} {meth : Method} {c : Code} {D : va_G} {cA ad : Nat → Nat} {q : (Int32 × GW)} (C : gC p c cX10_greyIn meth m s args 3 (some .int) RX10 D cA ad shX) (w : GW) (hf : f_X10_greyIn_19 w = some q) : gW p l e (gRm 3 165) s m args below meth c D cA ad shX 3 0 0 (gQ below D cA ad shX (some (.int q.1)) q.2 args s) 19 [(0, .ref 0)] [] w := by
  unfold f_X10_greyIn_19 at hf
  refine g_aload_n C (gdec dt_X10_greyIn 9 rfl) (i := 0) rfl rfl ?_
  refine g_iconst C (gdec dt_X10_greyIn 10 rfl) ic_1 ?_
  obtain ⟨q7, hq7, hf⟩ := Option.bind_eq_some_iff.mp hf
  refine g_invV [.int (1 : Int32)] [] C (c_X10_refuse l D cA _ (gCi C) w (1 : Int32) q7 hq7) kT_X10_refuse kl_X10_110 kim_X10_refuse kse_X10_refuse rfl rfl (i := 0) rfl rfl ⟨by decide, by decide⟩ gk0 (Nat.le_of_ble_eq_true rfl) (gdec dt_X10_greyIn 11 rfl) rfl (st2 := [.int q7.1]) rfl ?_
  cases hf
  exact g_iret C rfl (gdec dt_X10_greyIn 12 rfl)
set_option maxHeartbeats 4000000 in
set_option maxRecDepth 100000 in
theorem c_X10_greyIn (l : Launch) (D : va_G) (cA ad : Nat → Nat) (hin : gInj ad shX.length) (w : GW) (x1 : Int32) (x2 : Int32) (q : (Int32 × GW)) (hf : F_X10_greyIn x1 x2 w = some q) : gMet l yX10_greyIn cX10_greyIn 3 (some .int) 3 165 D cA ad shX [.ref 0, .int x1, .int x2] w (some (.int q.1)) q.2 := by
  refine g_entry (by decide) hin (Nat.le_of_ble_eq_true rfl) ?_
  intro p e s m args below meth c C
  unfold F_X10_greyIn at hf
  show gW p l e (gRm 3 165) s m args below meth c D cA ad shX 3 0 0 (gQ below D cA ad shX (some (.int q.1)) q.2 args s) 0 [(0, .ref 0), (1, .int x1), (2, .int x2)] [] w
  refine g_aload_n C (gdec dt_X10_greyIn 0 rfl) (i := 0) rfl rfl ?_
  refine g_getr C (j := 14) kf_X10_26 rfl rfl (gdec dt_X10_greyIn 1 rfl) ?_
  refine g_iload_n C (gdec dt_X10_greyIn 2 rfl) (i := 1) rfl rfl ?_
  obtain ⟨q1, hq1, hf⟩ := Option.bind_eq_some_iff.mp hf
  refine g_invVs e_shX_shB_14 [.int x1] [] C (c_X0_hasClerk l D cA _ (gInj_sub em_e_shX_shB_14 (gCi C)) (gsub w e_shX_shB_14) x1 q1 hq1) em_e_shX_shB_14 (by decide) rfl kT_X0_hasClerk kl_X10_266 kim_X0_hasClerk kse_X0_hasClerk rfl rfl (i := 14) rfl rfl ⟨by decide, by decide⟩ gk0 (Nat.le_of_ble_eq_true rfl) (gdec dt_X10_greyIn 3 rfl) rfl (st2 := [.int q1]) (w2 := w) rfl (gput_sub _ _) ?_
  refine g_if_eq C (tgt := 19) (gdec dt_X10_greyIn 4 rfl) (by decide) (fun hc2 => ?_) (fun hc2 => ?_)
  · have hf := (if_pos hc2).symm.trans hf
    refine g_sub [0] (lo2 := [(0, .ref 0)]) rfl ?_
    exact L_X10_greyIn_19 C w hf
  · have hf := (if_neg hc2).symm.trans hf
    refine g_aload_n C (gdec dt_X10_greyIn 5 rfl) (i := 0) rfl rfl ?_
    refine g_iload_n C (gdec dt_X10_greyIn 6 rfl) (i := 2) rfl rfl ?_
    obtain ⟨q3, hq3, hf⟩ := Option.bind_eq_some_iff.mp hf
    refine g_invV [.int x2] [] C (c_X10_isYears l D cA _ (gCi C) w x2 q3 hq3) kT_X10_isYears kl_X10_338 kim_X10_isYears kse_X10_isYears rfl rfl (i := 0) rfl rfl ⟨by decide, by decide⟩ gk0 (Nat.le_of_ble_eq_true rfl) (gdec dt_X10_greyIn 7 rfl) rfl (st2 := [.int q3]) rfl ?_
    refine g_if_ne C (tgt := 25) (gdec dt_X10_greyIn 8 rfl) (by decide) (fun hc4 => ?_) (fun hc4 => ?_)
    · have hf := (if_neg hc4).symm.trans hf
      refine g_aload_n C (gdec dt_X10_greyIn 13 rfl) (i := 0) rfl rfl ?_
      refine g_aload_n C (gdec dt_X10_greyIn 14 rfl) (i := 0) rfl rfl ?_
      refine g_getr C (j := 14) kf_X10_26 rfl rfl (gdec dt_X10_greyIn 15 rfl) ?_
      refine g_iload_n C (gdec dt_X10_greyIn 16 rfl) (i := 1) rfl rfl ?_
      refine g_iload_n C (gdec dt_X10_greyIn 17 rfl) (i := 2) rfl rfl ?_
      obtain ⟨q5, hq5, hf⟩ := Option.bind_eq_some_iff.mp hf
      refine g_invVs e_shX_shB_14 [.int x1, .int x2] [.ref 0] C (c_X0_greyStaying l D cA _ (gInj_sub em_e_shX_shB_14 (gCi C)) (gsub w e_shX_shB_14) x1 x2 q5 hq5) em_e_shX_shB_14 (by decide) rfl kT_X0_greyStaying kl_X10_341 kim_X0_greyStaying kse_X0_greyStaying rfl rfl (i := 14) rfl rfl ⟨by decide, by decide⟩ gk0 (Nat.le_of_ble_eq_true rfl) (gdec dt_X10_greyIn 18 rfl) rfl (st2 := [.int q5, .ref 0]) (w2 := w) rfl (gput_sub _ _) ?_
      obtain ⟨q6, hq6, hf⟩ := Option.bind_eq_some_iff.mp hf
      refine g_invV [.int q5] [] C (c_X10_answer l D cA _ (gCi C) w q5 q6 hq6) kT_X10_answer kl_X10_114 kim_X10_answer kse_X10_answer rfl rfl (i := 0) rfl rfl ⟨by decide, by decide⟩ gk0 (Nat.le_of_ble_eq_true rfl) (gdec dt_X10_greyIn 19 rfl) rfl (st2 := [.int q6.1]) rfl ?_
      cases hf
      exact g_iret C rfl (gdec dt_X10_greyIn 20 rfl)
    · have hf := (if_pos hc4).symm.trans hf
      refine g_sub [0] (lo2 := [(0, .ref 0)]) rfl ?_
      exact L_X10_greyIn_19 C w hf
set_option maxHeartbeats 4000000 in
set_option maxRecDepth 100000 in
theorem L_X10_rankIn_19 {p : Program} {l : Launch} {e : Env} {s : State} {m : MethodId} {args : Array Value} {below : List Frame} {meth : Method} {c : Code} {D : va_G} {cA ad : Nat → Nat} {q : (Int32 × GW)} (C : gC p c cX10_rankIn meth m s args 4 (some .int) RX10 D cA ad shX) (w : GW) (hf : f_X10_rankIn_19 w = some q) : gW p l e (gRm 3 165) s m args below meth c D cA ad shX 4 0 0 (gQ below D cA ad shX (some (.int q.1)) q.2 args s) 19 [(0, .ref 0)] [] w := by
  unfold f_X10_rankIn_19 at hf
  refine g_aload_n C (gdec dt_X10_rankIn 9 rfl) (i := 0) rfl rfl ?_
  refine g_iconst C (gdec dt_X10_rankIn 10 rfl) ic_1 ?_
  obtain ⟨q10, hq10, hf⟩ := Option.bind_eq_some_iff.mp hf
  refine g_invV [.int (1 : Int32)] [] C (c_X10_refuse l D cA _ (gCi C) w (1 : Int32) q10 hq10) kT_X10_refuse kl_X10_110 kim_X10_refuse kse_X10_refuse rfl rfl (i := 0) rfl rfl ⟨by decide, by decide⟩ gk0 (Nat.le_of_ble_eq_true rfl) (gdec dt_X10_rankIn 11 rfl) rfl (st2 := [.int q10.1]) rfl ?_
  cases hf
  exact g_iret C rfl (gdec dt_X10_rankIn 12 rfl)
set_option maxHeartbeats 4000000 in
set_option maxRecDepth 100000 in
theorem c_X10_rankIn (l : Launch) (D : va_G) (cA ad : Nat → Nat) (hin : gInj ad shX.length) (w : GW) (x1 : Int32) (x2 : Int32) (q : (Int32 × GW)) (hf : F_X10_rankIn x1 x2 w = some q) : gMet l yX10_rankIn cX10_rankIn 4 (some .int) 3 165 D cA ad shX [.ref 0, .int x1, .int x2] w (some (.int q.1)) q.2 := by
  refine g_entry (by decide) hin (Nat.le_of_ble_eq_true rfl) ?_
  intro p e s m args below meth c C
  unfold F_X10_rankIn at hf
  show gW p l e (gRm 3 165) s m args below meth c D cA ad shX 4 0 0 (gQ below D cA ad shX (some (.int q.1)) q.2 args s) 0 [(0, .ref 0), (1, .int x1), (2, .int x2)] [] w
  refine g_aload_n C (gdec dt_X10_rankIn 0 rfl) (i := 0) rfl rfl ?_
  refine g_getr C (j := 14) kf_X10_26 rfl rfl (gdec dt_X10_rankIn 1 rfl) ?_
  refine g_iload_n C (gdec dt_X10_rankIn 2 rfl) (i := 1) rfl rfl ?_
  obtain ⟨q1, hq1, hf⟩ := Option.bind_eq_some_iff.mp hf
  refine g_invVs e_shX_shB_14 [.int x1] [] C (c_X0_hasClerk l D cA _ (gInj_sub em_e_shX_shB_14 (gCi C)) (gsub w e_shX_shB_14) x1 q1 hq1) em_e_shX_shB_14 (by decide) rfl kT_X0_hasClerk kl_X10_266 kim_X0_hasClerk kse_X0_hasClerk rfl rfl (i := 14) rfl rfl ⟨by decide, by decide⟩ gk0 (Nat.le_of_ble_eq_true rfl) (gdec dt_X10_rankIn 3 rfl) rfl (st2 := [.int q1]) (w2 := w) rfl (gput_sub _ _) ?_
  refine g_if_eq C (tgt := 19) (gdec dt_X10_rankIn 4 rfl) (by decide) (fun hc2 => ?_) (fun hc2 => ?_)
  · have hf := (if_pos hc2).symm.trans hf
    refine g_sub [0] (lo2 := [(0, .ref 0)]) rfl ?_
    exact L_X10_rankIn_19 C w hf
  · have hf := (if_neg hc2).symm.trans hf
    refine g_aload_n C (gdec dt_X10_rankIn 5 rfl) (i := 0) rfl rfl ?_
    refine g_iload_n C (gdec dt_X10_rankIn 6 rfl) (i := 2) rfl rfl ?_
    obtain ⟨q3, hq3, hf⟩ := Option.bind_eq_some_iff.mp hf
    refine g_invV [.int x2] [] C (c_X10_isYears l D cA _ (gCi C) w x2 q3 hq3) kT_X10_isYears kl_X10_338 kim_X10_isYears kse_X10_isYears rfl rfl (i := 0) rfl rfl ⟨by decide, by decide⟩ gk0 (Nat.le_of_ble_eq_true rfl) (gdec dt_X10_rankIn 7 rfl) rfl (st2 := [.int q3]) rfl ?_
    refine g_if_ne C (tgt := 25) (gdec dt_X10_rankIn 8 rfl) (by decide) (fun hc4 => ?_) (fun hc4 => ?_)
    · have hf := (if_neg hc4).symm.trans hf
      refine g_aload_n C (gdec dt_X10_rankIn 13 rfl) (i := 0) rfl rfl ?_
      refine g_getr C (j := 14) kf_X10_26 rfl rfl (gdec dt_X10_rankIn 14 rfl) ?_
      refine g_iload_n C (gdec dt_X10_rankIn 15 rfl) (i := 1) rfl rfl ?_
      refine g_iload_n C (gdec dt_X10_rankIn 16 rfl) (i := 2) rfl rfl ?_
      obtain ⟨q5, hq5, hf⟩ := Option.bind_eq_some_iff.mp hf
      refine g_invVs e_shX_shB_14 [.int x1, .int x2] [] C (c_X0_greyStaying l D cA _ (gInj_sub em_e_shX_shB_14 (gCi C)) (gsub w e_shX_shB_14) x1 x2 q5 hq5) em_e_shX_shB_14 (by decide) rfl kT_X0_greyStaying kl_X10_341 kim_X0_greyStaying kse_X0_greyStaying rfl rfl (i := 14) rfl rfl ⟨by decide, by decide⟩ gk0 (Nat.le_of_ble_eq_true rfl) (gdec dt_X10_rankIn 17 rfl) rfl (st2 := [.int q5]) (w2 := w) rfl (gput_sub _ _) ?_
      refine g_aload_n C (gdec dt_X10_rankIn 18 rfl) (i := 0) rfl rfl ?_
      refine g_getr C (j := 14) kf_X10_26 rfl rfl (gdec dt_X10_rankIn 19 rfl) ?_
      refine g_getr C (j := 22) kf_X10_278 rfl rfl (gdec dt_X10_rankIn 20 rfl) ?_
      refine g_iload_n C (gdec dt_X10_rankIn 21 rfl) (i := 1) rfl rfl ?_
      obtain ⟨hg6, hf⟩ := gif hf
      refine g_iald C (i := 22) rfl hg6 rfl (gdec dt_X10_rankIn 22 rfl) ?_
      obtain ⟨q7, hq7, hf⟩ := Option.bind_eq_some_iff.mp hf
      refine g_invSs e_nil [.int q5, .int (w.1 22 x1.toNatClampNeg)] [] C (c_X10_looksBy l D cA _ (gInj_sub em_e_nil_shX (gCi C)) (gsub w e_nil) q5 (w.1 22 x1.toNatClampNeg) q7 hq7) em_e_nil_shX (by decide) rfl kT_X10_looksBy kl_X10_344 kst_X10_looksBy rfl rfl ⟨by decide, by decide⟩ gk0 (Nat.le_of_ble_eq_true rfl) (gdec dt_X10_rankIn 23 rfl) rfl (st2 := [.int q7]) (w2 := w) rfl (gput_sub _ _) ?_
      refine g_istore_n C (gdec dt_X10_rankIn 24 rfl) (i := 3) rfl (by decide) (lo2 := [(3, .int q7), (0, .ref 0), (1, .int x1), (2, .int x2)]) rfl ?_
      refine g_aload_n C (gdec dt_X10_rankIn 25 rfl) (i := 0) rfl rfl ?_
      refine g_aload_n C (gdec dt_X10_rankIn 26 rfl) (i := 0) rfl rfl ?_
      refine g_getr C (j := 14) kf_X10_26 rfl rfl (gdec dt_X10_rankIn 27 rfl) ?_
      refine g_iload_n C (gdec dt_X10_rankIn 28 rfl) (i := 3) rfl rfl ?_
      obtain ⟨q8, hq8, hf⟩ := Option.bind_eq_some_iff.mp hf
      refine g_invVs e_shX_shB_14 [.int q7] [.ref 0] C (c_X0_rankBy l D cA _ (gInj_sub em_e_shX_shB_14 (gCi C)) (gsub w e_shX_shB_14) q7 q8 hq8) em_e_shX_shB_14 (by decide) rfl kT_X0_rankBy kl_X10_290 kim_X0_rankBy kse_X0_rankBy rfl rfl (i := 14) rfl rfl ⟨by decide, by decide⟩ gk0 (Nat.le_of_ble_eq_true rfl) (gdec dt_X10_rankIn 29 rfl) rfl (st2 := [.int q8, .ref 0]) (w2 := w) rfl (gput_sub _ _) ?_
      refine g_bipush C (gdec dt_X10_rankIn 30 rfl) bc_6 ?_
      obtain ⟨q9, hq9, hf⟩ := Option.bind_eq_some_iff.mp hf
      refine g_invV [.int q8, .int (6 : Int32)] [] C (c_X10_answerOrRefuse l D cA _ (gCi C) w q8 (6 : Int32) q9 hq9) kT_X10_answerOrRefuse kl_X10_252 kim_X10_answerOrRefuse kse_X10_answerOrRefuse rfl rfl (i := 0) rfl rfl ⟨by decide, by decide⟩ gk0 (Nat.le_of_ble_eq_true rfl) (gdec dt_X10_rankIn 31 rfl) rfl (st2 := [.int q9.1]) rfl ?_
      cases hf
      exact g_iret C rfl (gdec dt_X10_rankIn 32 rfl)
    · have hf := (if_pos hc4).symm.trans hf
      refine g_sub [0] (lo2 := [(0, .ref 0)]) rfl ?_
      exact L_X10_rankIn_19 C w hf
set_option maxHeartbeats 4000000 in
set_option maxRecDepth 100000 in
theorem Lb_X10_unpaidIn_21 {p : Program} {l : Launch} {e : Env} {s : State} {m : MethodId} {args : Array Value} {below : List Frame} {meth : Method} {c : Code} {D : va_G} {cA ad : Nat → Nat} {q : (Int32 × GW)} (C : gC p c cX10_unpaidIn meth m s args 3 (some .int) RX10 D cA ad shX) {k21 : Int32 → Int32 → GW → Option (Int32 × GW)} (hk21 : ∀ (x1 : Int32) (x2 : Int32) (w : GW), k21 x1 x2 w = some q → gW p l e (gRm 4 188) s m args below meth c D cA ad shX 3 0 0 (gQ below D cA ad shX (some (.int q.1)) q.2 args s) 21 [(0, .ref 0), (1, .int x1), (2, .int x2)] [] w) (x1 : Int32) (x2 : Int32) (w : GW) (hf : b_X10_unpaidIn_21 k21 x1 x2 w = some q) : gW p l e (gRm 4 188) s m args below meth c D cA ad shX 3 0 0 (gQ below D cA ad shX (some (.int q.1)) q.2 args s) 21 [(0, .ref 0), (1, .int x1), (2, .int x2)] [] w := by
  unfold b_X10_unpaidIn_21 at hf
  refine g_iload_n C (gdec dt_X10_unpaidIn 11 rfl) (i := 2) rfl rfl ?_
  refine g_bipush C (gdec dt_X10_unpaidIn 12 rfl) bc_99 ?_
  refine g_icmp_gt C (tgt := 58) (gdec dt_X10_unpaidIn 13 rfl) (by decide) (fun hc3 => ?_) (fun hc3 => ?_)
  · have hf := (if_pos hc3).symm.trans hf
    refine g_aload_n C (gdec dt_X10_unpaidIn 29 rfl) (i := 0) rfl rfl ?_
    refine g_bipush C (gdec dt_X10_unpaidIn 30 rfl) bc_6 ?_
    obtain ⟨q4, hq4, hf⟩ := Option.bind_eq_some_iff.mp hf
    refine g_invV [.int (6 : Int32)] [] C (c_X10_refuse l D cA _ (gCi C) w (6 : Int32) q4 hq4) kT_X10_refuse kl_X10_110 kim_X10_refuse kse_X10_refuse rfl rfl (i := 0) rfl rfl ⟨by decide, by decide⟩ gk0 (Nat.le_of_ble_eq_true rfl) (gdec dt_X10_unpaidIn 31 rfl) rfl (st2 := [.int q4.1]) rfl ?_
    cases hf
    exact g_iret C rfl (gdec dt_X10_unpaidIn 32 rfl)
  · have hf := (if_neg hc3).symm.trans hf
    refine g_aload_n C (gdec dt_X10_unpaidIn 14 rfl) (i := 0) rfl rfl ?_
    refine g_getr C (j := 27) kf_X10_30 rfl rfl (gdec dt_X10_unpaidIn 15 rfl) ?_
    obtain ⟨q5, hq5, hf⟩ := Option.bind_eq_some_iff.mp hf
    refine g_invVs e_shX_shB_27 [] [] C (c_X0_passYear l D cA _ (gInj_sub em_e_shX_shB_27 (gCi C)) (gsub w e_shX_shB_27)  q5 hq5) em_e_shX_shB_27 (by decide) rfl kT_X0_passYear kl_X10_347 kim_X0_passYear kse_X0_passYear rfl rfl (i := 27) rfl rfl ⟨by decide, by decide⟩ gk0 (Nat.le_of_ble_eq_true rfl) (gdec dt_X10_unpaidIn 16 rfl) rfl (st2 := [.int q5.1]) (w2 := (gput w e_shX_shB_27 q5.2)) rfl rfl ?_
    refine g_pop C (gdec dt_X10_unpaidIn 17 rfl) rfl ?_
    refine g_aload_n C (gdec dt_X10_unpaidIn 18 rfl) (i := 0) rfl rfl ?_
    refine g_getr C (j := 27) kf_X10_30 rfl rfl (gdec dt_X10_unpaidIn 19 rfl) ?_
    obtain ⟨q6, hq6, hf⟩ := Option.bind_eq_some_iff.mp hf
    refine g_invVs e_shX_shB_27 [] [] C (c_X0_unpaidOfAll l D cA _ (gInj_sub em_e_shX_shB_27 (gCi C)) (gsub (gput w e_shX_shB_27 q5.2) e_shX_shB_27)  q6 hq6) em_e_shX_shB_27 (by decide) rfl kT_X0_unpaidOfAll kl_X10_229 kim_X0_unpaidOfAll kse_X0_unpaidOfAll rfl rfl (i := 27) rfl rfl ⟨by decide, by decide⟩ gk0 (Nat.le_of_ble_eq_true rfl) (gdec dt_X10_unpaidIn 20 rfl) rfl (st2 := [.int q6]) (w2 := (gput w e_shX_shB_27 q5.2)) rfl (gput_sub _ _) ?_
    refine g_iload_n C (gdec dt_X10_unpaidIn 21 rfl) (i := 1) rfl rfl ?_
    refine g_icmp_le C (tgt := 52) (gdec dt_X10_unpaidIn 22 rfl) (by decide) (fun hc7 => ?_) (fun hc7 => ?_)
    · have hf := (if_pos hc7).symm.trans hf
      refine g_iinc C (gdec dt_X10_unpaidIn 27 rfl) (kk := 2) rfl (v := (x2 + (1 : Int32))) rfl (by decide) (lo2 := [(2, .int (x2 + (1 : Int32))), (0, .ref 0), (1, .int x1)]) rfl ?_
      refine g_goto C (tgt := 21) (gdec dt_X10_unpaidIn 28 rfl) (by decide) ?_
      refine g_sub [1, 2, 0] (lo2 := [(0, .ref 0), (1, .int x1), (2, .int (x2 + (1 : Int32)))]) rfl ?_
      exact hk21 x1 (x2 + (1 : Int32)) (gput w e_shX_shB_27 q5.2) hf
    · have hf := (if_neg hc7).symm.trans hf
      refine g_aload_n C (gdec dt_X10_unpaidIn 23 rfl) (i := 0) rfl rfl ?_
      refine g_iload_n C (gdec dt_X10_unpaidIn 24 rfl) (i := 2) rfl rfl ?_
      obtain ⟨q8, hq8, hf⟩ := Option.bind_eq_some_iff.mp hf
      refine g_invV [.int x2] [] C (c_X10_answer l D cA _ (gCi C) (gput w e_shX_shB_27 q5.2) x2 q8 hq8) kT_X10_answer kl_X10_114 kim_X10_answer kse_X10_answer rfl rfl (i := 0) rfl rfl ⟨by decide, by decide⟩ gk0 (Nat.le_of_ble_eq_true rfl) (gdec dt_X10_unpaidIn 25 rfl) rfl (st2 := [.int q8.1]) rfl ?_
      cases hf
      exact g_iret C rfl (gdec dt_X10_unpaidIn 26 rfl)
theorem L_X10_unpaidIn_21 {p : Program} {l : Launch} {e : Env} {s : State} {m : MethodId} {args : Array Value} {below : List Frame} {meth : Method} {c : Code} {D : va_G} {cA ad : Nat → Nat} {q : (Int32 × GW)} (C : gC p c cX10_unpaidIn meth m s args 3 (some .int) RX10 D cA ad shX) : ∀ (n : Nat) (x1 : Int32) (x2 : Int32) (w : GW), f_X10_unpaidIn_21 n x1 x2 w = some q → gW p l e (gRm 4 188) s m args below meth c D cA ad shX 3 0 0 (gQ below D cA ad shX (some (.int q.1)) q.2 args s) 21 [(0, .ref 0), (1, .int x1), (2, .int x2)] [] w := by
  intro n
  induction n with
  | zero => intro _ _ _ hf; cases hf
  | succ n ih => intro x1 x2 w hf; exact Lb_X10_unpaidIn_21 C ih x1 x2 w hf
set_option maxHeartbeats 4000000 in
set_option maxRecDepth 100000 in
theorem c_X10_unpaidIn (l : Launch) (D : va_G) (cA ad : Nat → Nat) (hin : gInj ad shX.length) (w : GW) (q : (Int32 × GW)) (hf : F_X10_unpaidIn w = some q) : gMet l yX10_unpaidIn cX10_unpaidIn 3 (some .int) 4 188 D cA ad shX [.ref 0] w (some (.int q.1)) q.2 := by
  refine g_entry (by decide) hin (Nat.le_of_ble_eq_true rfl) ?_
  intro p e s m args below meth c C
  unfold F_X10_unpaidIn at hf
  show gW p l e (gRm 4 188) s m args below meth c D cA ad shX 3 0 0 (gQ below D cA ad shX (some (.int q.1)) q.2 args s) 0 [(0, .ref 0)] [] w
  refine g_aload_n C (gdec dt_X10_unpaidIn 0 rfl) (i := 0) rfl rfl ?_
  refine g_getr C (j := 27) kf_X10_30 rfl rfl (gdec dt_X10_unpaidIn 1 rfl) ?_
  refine g_aload_n C (gdec dt_X10_unpaidIn 2 rfl) (i := 0) rfl rfl ?_
  refine g_getr C (j := 14) kf_X10_26 rfl rfl (gdec dt_X10_unpaidIn 3 rfl) ?_
  obtain ⟨q1, hq1, hf⟩ := Option.bind_eq_some_iff.mp hf
  refine g_invVs e_shX_shBB_27_14 [.ref 14] [] C (c_X0_copyFrom l D cA _ (gInj_sub em_e_shX_shBB_27_14 (gCi C)) (gsub w e_shX_shBB_27_14)  q1 hq1) em_e_shX_shBB_27_14 (by decide) rfl kT_X0_copyFrom kl_X10_183 kim_X0_copyFrom kse_X0_copyFrom rfl rfl (i := 27) rfl rfl ⟨by decide, by decide⟩ gk0 (Nat.le_of_ble_eq_true rfl) (gdec dt_X10_unpaidIn 4 rfl) rfl (st2 := []) (w2 := (gput w e_shX_shBB_27_14 q1)) rfl rfl ?_
  refine g_aload_n C (gdec dt_X10_unpaidIn 5 rfl) (i := 0) rfl rfl ?_
  refine g_getr C (j := 27) kf_X10_30 rfl rfl (gdec dt_X10_unpaidIn 6 rfl) ?_
  obtain ⟨q2, hq2, hf⟩ := Option.bind_eq_some_iff.mp hf
  refine g_invVs e_shX_shB_27 [] [] C (c_X0_unpaidOfAll l D cA _ (gInj_sub em_e_shX_shB_27 (gCi C)) (gsub (gput w e_shX_shBB_27_14 q1) e_shX_shB_27)  q2 hq2) em_e_shX_shB_27 (by decide) rfl kT_X0_unpaidOfAll kl_X10_229 kim_X0_unpaidOfAll kse_X0_unpaidOfAll rfl rfl (i := 27) rfl rfl ⟨by decide, by decide⟩ gk0 (Nat.le_of_ble_eq_true rfl) (gdec dt_X10_unpaidIn 7 rfl) rfl (st2 := [.int q2]) (w2 := (gput w e_shX_shBB_27_14 q1)) rfl (gput_sub _ _) ?_
  refine g_istore_n C (gdec dt_X10_unpaidIn 8 rfl) (i := 1) rfl (by decide) (lo2 := [(1, .int q2), (0, .ref 0)]) rfl ?_
  refine g_iconst C (gdec dt_X10_unpaidIn 9 rfl) ic_1 ?_
  refine g_istore_n C (gdec dt_X10_unpaidIn 10 rfl) (i := 2) rfl (by decide) (lo2 := [(2, .int (1 : Int32)), (1, .int q2), (0, .ref 0)]) rfl ?_
  refine g_sub [2, 1, 0] (lo2 := [(0, .ref 0), (1, .int q2), (2, .int (1 : Int32))]) rfl ?_
  exact L_X10_unpaidIn_21 C FU q2 (1 : Int32) (gput w e_shX_shBB_27_14 q1) hf
set_option maxHeartbeats 4000000 in
set_option maxRecDepth 100000 in
theorem Lb_X10_cashIn_27 {p : Program} {l : Launch} {e : Env} {s : State} {m : MethodId} {args : Array Value} {below : List Frame} {meth : Method} {c : Code} {D : va_G} {cA ad : Nat → Nat} {q : (Int32 × GW)} (C : gC p c cX10_cashIn meth m s args 3 (some .int) RX10 D cA ad shX) {k27 : Int32 → Int32 → GW → Option (Int32 × GW)} (hk27 : ∀ (x1 : Int32) (x2 : Int32) (w : GW), k27 x1 x2 w = some q → gW p l e (gRm 4 188) s m args below meth c D cA ad shX 3 0 0 (gQ below D cA ad shX (some (.int q.1)) q.2 args s) 27 [(0, .ref 0), (1, .int x1), (2, .int x2)] [] w) (x1 : Int32) (x2 : Int32) (w : GW) (hf : b_X10_cashIn_27 k27 x1 x2 w = some q) : gW p l e (gRm 4 188) s m args below meth c D cA ad shX 3 0 0 (gQ below D cA ad shX (some (.int q.1)) q.2 args s) 27 [(0, .ref 0), (1, .int x1), (2, .int x2)] [] w := by
  unfold b_X10_cashIn_27 at hf
  refine g_iload_n C (gdec dt_X10_cashIn 15 rfl) (i := 2) rfl rfl ?_
  refine g_iload_n C (gdec dt_X10_cashIn 16 rfl) (i := 1) rfl rfl ?_
  refine g_icmp_ge C (tgt := 46) (gdec dt_X10_cashIn 17 rfl) (by decide) (fun hc5 => ?_) (fun hc5 => ?_)
  · have hf := (if_pos hc5).symm.trans hf
    refine g_aload_n C (gdec dt_X10_cashIn 24 rfl) (i := 0) rfl rfl ?_
    refine g_aload_n C (gdec dt_X10_cashIn 25 rfl) (i := 0) rfl rfl ?_
    refine g_getr C (j := 27) kf_X10_30 rfl rfl (gdec dt_X10_cashIn 26 rfl) ?_
    refine g_geti C kf_X10_223 rfl rfl (gdec dt_X10_cashIn 27 rfl) ?_
    obtain ⟨q6, hq6, hf⟩ := Option.bind_eq_some_iff.mp hf
    refine g_invV [.int (w.1 27 1)] [] C (c_X10_answer l D cA _ (gCi C) w (w.1 27 1) q6 hq6) kT_X10_answer kl_X10_114 kim_X10_answer kse_X10_answer rfl rfl (i := 0) rfl rfl ⟨by decide, by decide⟩ gk0 (Nat.le_of_ble_eq_true rfl) (gdec dt_X10_cashIn 28 rfl) rfl (st2 := [.int q6.1]) rfl ?_
    cases hf
    exact g_iret C rfl (gdec dt_X10_cashIn 29 rfl)
  · have hf := (if_neg hc5).symm.trans hf
    refine g_aload_n C (gdec dt_X10_cashIn 18 rfl) (i := 0) rfl rfl ?_
    refine g_getr C (j := 27) kf_X10_30 rfl rfl (gdec dt_X10_cashIn 19 rfl) ?_
    obtain ⟨q7, hq7, hf⟩ := Option.bind_eq_some_iff.mp hf
    refine g_invVs e_shX_shB_27 [] [] C (c_X0_passYear l D cA _ (gInj_sub em_e_shX_shB_27 (gCi C)) (gsub w e_shX_shB_27)  q7 hq7) em_e_shX_shB_27 (by decide) rfl kT_X0_passYear kl_X10_347 kim_X0_passYear kse_X0_passYear rfl rfl (i := 27) rfl rfl ⟨by decide, by decide⟩ gk0 (Nat.le_of_ble_eq_true rfl) (gdec dt_X10_cashIn 20 rfl) rfl (st2 := [.int q7.1]) (w2 := (gput w e_shX_shB_27 q7.2)) rfl rfl ?_
    refine g_pop C (gdec dt_X10_cashIn 21 rfl) rfl ?_
    refine g_iinc C (gdec dt_X10_cashIn 22 rfl) (kk := 2) rfl (v := (x2 + (1 : Int32))) rfl (by decide) (lo2 := [(2, .int (x2 + (1 : Int32))), (0, .ref 0), (1, .int x1)]) rfl ?_
    refine g_goto C (tgt := 27) (gdec dt_X10_cashIn 23 rfl) (by decide) ?_
    refine g_sub [1, 2, 0] (lo2 := [(0, .ref 0), (1, .int x1), (2, .int (x2 + (1 : Int32)))]) rfl ?_
    exact hk27 x1 (x2 + (1 : Int32)) (gput w e_shX_shB_27 q7.2) hf
theorem L_X10_cashIn_27 {p : Program} {l : Launch} {e : Env} {s : State} {m : MethodId} {args : Array Value} {below : List Frame} {meth : Method} {c : Code} {D : va_G} {cA ad : Nat → Nat} {q : (Int32 × GW)} (C : gC p c cX10_cashIn meth m s args 3 (some .int) RX10 D cA ad shX) : ∀ (n : Nat) (x1 : Int32) (x2 : Int32) (w : GW), f_X10_cashIn_27 n x1 x2 w = some q → gW p l e (gRm 4 188) s m args below meth c D cA ad shX 3 0 0 (gQ below D cA ad shX (some (.int q.1)) q.2 args s) 27 [(0, .ref 0), (1, .int x1), (2, .int x2)] [] w := by
  intro n
  induction n with
  | zero => intro _ _ _ hf; cases hf
  | succ n ih => intro x1 x2 w hf; exact Lb_X10_cashIn_27 C ih x1 x2 w hf
set_option maxHeartbeats 4000000 in
set_option maxRecDepth 100000 in
theorem c_X10_cashIn (l : Launch) (D : va_G) (cA ad : Nat → Nat) (hin : gInj ad shX.length) (w : GW) (x1 : Int32) (q : (Int32 × GW)) (hf : F_X10_cashIn x1 w = some q) : gMet l yX10_cashIn cX10_cashIn 3 (some .int) 4 188 D cA ad shX [.ref 0, .int x1] w (some (.int q.1)) q.2 := by
  refine g_entry (by decide) hin (Nat.le_of_ble_eq_true rfl) ?_
  intro p e s m args below meth c C
  unfold F_X10_cashIn at hf
  show gW p l e (gRm 4 188) s m args below meth c D cA ad shX 3 0 0 (gQ below D cA ad shX (some (.int q.1)) q.2 args s) 0 [(0, .ref 0), (1, .int x1)] [] w
  refine g_aload_n C (gdec dt_X10_cashIn 0 rfl) (i := 0) rfl rfl ?_
  refine g_iload_n C (gdec dt_X10_cashIn 1 rfl) (i := 1) rfl rfl ?_
  obtain ⟨q1, hq1, hf⟩ := Option.bind_eq_some_iff.mp hf
  refine g_invV [.int x1] [] C (c_X10_isYears l D cA _ (gCi C) w x1 q1 hq1) kT_X10_isYears kl_X10_338 kim_X10_isYears kse_X10_isYears rfl rfl (i := 0) rfl rfl ⟨by decide, by decide⟩ gk0 (Nat.le_of_ble_eq_true rfl) (gdec dt_X10_cashIn 2 rfl) rfl (st2 := [.int q1]) rfl ?_
  refine g_if_ne C (tgt := 14) (gdec dt_X10_cashIn 3 rfl) (by decide) (fun hc2 => ?_) (fun hc2 => ?_)
  · have hf := (if_neg hc2).symm.trans hf
    refine g_aload_n C (gdec dt_X10_cashIn 8 rfl) (i := 0) rfl rfl ?_
    refine g_getr C (j := 27) kf_X10_30 rfl rfl (gdec dt_X10_cashIn 9 rfl) ?_
    refine g_aload_n C (gdec dt_X10_cashIn 10 rfl) (i := 0) rfl rfl ?_
    refine g_getr C (j := 14) kf_X10_26 rfl rfl (gdec dt_X10_cashIn 11 rfl) ?_
    obtain ⟨q3, hq3, hf⟩ := Option.bind_eq_some_iff.mp hf
    refine g_invVs e_shX_shBB_27_14 [.ref 14] [] C (c_X0_copyFrom l D cA _ (gInj_sub em_e_shX_shBB_27_14 (gCi C)) (gsub w e_shX_shBB_27_14)  q3 hq3) em_e_shX_shBB_27_14 (by decide) rfl kT_X0_copyFrom kl_X10_183 kim_X0_copyFrom kse_X0_copyFrom rfl rfl (i := 27) rfl rfl ⟨by decide, by decide⟩ gk0 (Nat.le_of_ble_eq_true rfl) (gdec dt_X10_cashIn 12 rfl) rfl (st2 := []) (w2 := (gput w e_shX_shBB_27_14 q3)) rfl rfl ?_
    refine g_iconst C (gdec dt_X10_cashIn 13 rfl) ic_0 ?_
    refine g_istore_n C (gdec dt_X10_cashIn 14 rfl) (i := 2) rfl (by decide) (lo2 := [(2, .int (0 : Int32)), (0, .ref 0), (1, .int x1)]) rfl ?_
    refine g_sub [1, 2, 0] (lo2 := [(0, .ref 0), (1, .int x1), (2, .int (0 : Int32))]) rfl ?_
    exact L_X10_cashIn_27 C FU x1 (0 : Int32) (gput w e_shX_shBB_27_14 q3) hf
  · have hf := (if_pos hc2).symm.trans hf
    refine g_aload_n C (gdec dt_X10_cashIn 4 rfl) (i := 0) rfl rfl ?_
    refine g_iconst C (gdec dt_X10_cashIn 5 rfl) ic_1 ?_
    obtain ⟨q4, hq4, hf⟩ := Option.bind_eq_some_iff.mp hf
    refine g_invV [.int (1 : Int32)] [] C (c_X10_refuse l D cA _ (gCi C) w (1 : Int32) q4 hq4) kT_X10_refuse kl_X10_110 kim_X10_refuse kse_X10_refuse rfl rfl (i := 0) rfl rfl ⟨by decide, by decide⟩ gk0 (Nat.le_of_ble_eq_true rfl) (gdec dt_X10_cashIn 6 rfl) rfl (st2 := [.int q4.1]) rfl ?_
    cases hf
    exact g_iret C rfl (gdec dt_X10_cashIn 7 rfl)
set_option maxHeartbeats 4000000 in
set_option maxRecDepth 100000 in
theorem c_X10_seating (l : Launch) (D : va_G) (cA ad : Nat → Nat) (hin : gInj ad shX.length) (w : GW) (x1 : Int32) (q : (Int32 × GW)) (hf : F_X10_seating x1 w = some q) : gMet l yX10_seating cX10_seating 2 (some .int) 7 267 D cA ad shX [.ref 0, .int x1] w (some (.int q.1)) q.2 := by
  refine g_entry (by decide) hin (Nat.le_of_ble_eq_true rfl) ?_
  intro p e s m args below meth c C
  unfold F_X10_seating at hf
  show gW p l e (gRm 7 267) s m args below meth c D cA ad shX 2 0 0 (gQ below D cA ad shX (some (.int q.1)) q.2 args s) 0 [(0, .ref 0), (1, .int x1)] [] w
  refine g_aload_n C (gdec dt_X10_seating 0 rfl) (i := 0) rfl rfl ?_
  refine g_iload_n C (gdec dt_X10_seating 1 rfl) (i := 1) rfl rfl ?_
  obtain ⟨q1, hq1, hf⟩ := Option.bind_eq_some_iff.mp hf
  refine g_invV [.int x1] [] C (c_X10_isYears l D cA _ (gCi C) w x1 q1 hq1) kT_X10_isYears kl_X10_338 kim_X10_isYears kse_X10_isYears rfl rfl (i := 0) rfl rfl ⟨by decide, by decide⟩ gk0 (Nat.le_of_ble_eq_true rfl) (gdec dt_X10_seating 2 rfl) rfl (st2 := [.int q1]) rfl ?_
  refine g_if_ne C (tgt := 14) (gdec dt_X10_seating 3 rfl) (by decide) (fun hc2 => ?_) (fun hc2 => ?_)
  · have hf := (if_neg hc2).symm.trans hf
    refine g_aload_n C (gdec dt_X10_seating 8 rfl) (i := 0) rfl rfl ?_
    refine g_aload_n C (gdec dt_X10_seating 9 rfl) (i := 0) rfl rfl ?_
    refine g_getr C (j := 132) kf_X10_80 rfl rfl (gdec dt_X10_seating 10 rfl) ?_
    refine g_aload_n C (gdec dt_X10_seating 11 rfl) (i := 0) rfl rfl ?_
    refine g_getr C (j := 14) kf_X10_26 rfl rfl (gdec dt_X10_seating 12 rfl) ?_
    refine g_iload_n C (gdec dt_X10_seating 13 rfl) (i := 1) rfl rfl ?_
    obtain ⟨q3, hq3, hf⟩ := Option.bind_eq_some_iff.mp hf
    refine g_invVs e_shX_shS_132_14 [.ref 14, .int x1] [.ref 0] C (c_X7_mostGrey l D cA _ (gInj_sub em_e_shX_shS_132_14 (gCi C)) (gsub w e_shX_shS_132_14) x1 q3 hq3) em_e_shX_shS_132_14 (by decide) rfl kT_X7_mostGrey kl_X10_350 kim_X7_mostGrey kse_X7_mostGrey rfl rfl (i := 132) rfl rfl ⟨by decide, by decide⟩ gk0 (Nat.le_of_ble_eq_true rfl) (gdec dt_X10_seating 14 rfl) rfl (st2 := [.int q3.1, .ref 0]) (w2 := (gput w e_shX_shS_132_14 q3.2)) rfl rfl ?_
    obtain ⟨q4, hq4, hf⟩ := Option.bind_eq_some_iff.mp hf
    refine g_invV [.int q3.1] [] C (c_X10_answer l D cA _ (gCi C) (gput w e_shX_shS_132_14 q3.2) q3.1 q4 hq4) kT_X10_answer kl_X10_114 kim_X10_answer kse_X10_answer rfl rfl (i := 0) rfl rfl ⟨by decide, by decide⟩ gk0 (Nat.le_of_ble_eq_true rfl) (gdec dt_X10_seating 15 rfl) rfl (st2 := [.int q4.1]) rfl ?_
    cases hf
    exact g_iret C rfl (gdec dt_X10_seating 16 rfl)
  · have hf := (if_pos hc2).symm.trans hf
    refine g_aload_n C (gdec dt_X10_seating 4 rfl) (i := 0) rfl rfl ?_
    refine g_iconst C (gdec dt_X10_seating 5 rfl) ic_1 ?_
    obtain ⟨q5, hq5, hf⟩ := Option.bind_eq_some_iff.mp hf
    refine g_invV [.int (1 : Int32)] [] C (c_X10_refuse l D cA _ (gCi C) w (1 : Int32) q5 hq5) kT_X10_refuse kl_X10_110 kim_X10_refuse kse_X10_refuse rfl rfl (i := 0) rfl rfl ⟨by decide, by decide⟩ gk0 (Nat.le_of_ble_eq_true rfl) (gdec dt_X10_seating 6 rfl) rfl (st2 := [.int q5.1]) rfl ?_
    cases hf
    exact g_iret C rfl (gdec dt_X10_seating 7 rfl)
set_option maxHeartbeats 4000000 in
set_option maxRecDepth 100000 in
theorem L_X10_seatOf_19 {p : Program} {l : Launch} {e : Env} {s : State} {m : MethodId} {args : Array Value} {below : List Frame} {meth : Method} {c : Code} {D : va_G} {cA ad : Nat → Nat} {q : (Int32 × GW)} (C : gC p c cX10_seatOf meth m s args 3 (some .int) RX10 D cA ad shX) (w : GW) (hf : f_X10_seatOf_19 w = some q) : gW p l e (gRm 7 271) s m args below meth c D cA ad shX 3 0 0 (gQ below D cA ad shX (some (.int q.1)) q.2 args s) 19 [(0, .ref 0)] [] w := by
  unfold f_X10_seatOf_19 at hf
  refine g_aload_n C (gdec dt_X10_seatOf 9 rfl) (i := 0) rfl rfl ?_
  refine g_iconst C (gdec dt_X10_seatOf 10 rfl) ic_1 ?_
  obtain ⟨q7, hq7, hf⟩ := Option.bind_eq_some_iff.mp hf
  refine g_invV [.int (1 : Int32)] [] C (c_X10_refuse l D cA _ (gCi C) w (1 : Int32) q7 hq7) kT_X10_refuse kl_X10_110 kim_X10_refuse kse_X10_refuse rfl rfl (i := 0) rfl rfl ⟨by decide, by decide⟩ gk0 (Nat.le_of_ble_eq_true rfl) (gdec dt_X10_seatOf 11 rfl) rfl (st2 := [.int q7.1]) rfl ?_
  cases hf
  exact g_iret C rfl (gdec dt_X10_seatOf 12 rfl)
set_option maxHeartbeats 4000000 in
set_option maxRecDepth 100000 in
theorem c_X10_seatOf (l : Launch) (D : va_G) (cA ad : Nat → Nat) (hin : gInj ad shX.length) (w : GW) (x1 : Int32) (x2 : Int32) (q : (Int32 × GW)) (hf : F_X10_seatOf x1 x2 w = some q) : gMet l yX10_seatOf cX10_seatOf 3 (some .int) 7 271 D cA ad shX [.ref 0, .int x1, .int x2] w (some (.int q.1)) q.2 := by
  refine g_entry (by decide) hin (Nat.le_of_ble_eq_true rfl) ?_
  intro p e s m args below meth c C
  unfold F_X10_seatOf at hf
  show gW p l e (gRm 7 271) s m args below meth c D cA ad shX 3 0 0 (gQ below D cA ad shX (some (.int q.1)) q.2 args s) 0 [(0, .ref 0), (1, .int x1), (2, .int x2)] [] w
  refine g_aload_n C (gdec dt_X10_seatOf 0 rfl) (i := 0) rfl rfl ?_
  refine g_iload_n C (gdec dt_X10_seatOf 1 rfl) (i := 1) rfl rfl ?_
  obtain ⟨q1, hq1, hf⟩ := Option.bind_eq_some_iff.mp hf
  refine g_invV [.int x1] [] C (c_X10_isYears l D cA _ (gCi C) w x1 q1 hq1) kT_X10_isYears kl_X10_338 kim_X10_isYears kse_X10_isYears rfl rfl (i := 0) rfl rfl ⟨by decide, by decide⟩ gk0 (Nat.le_of_ble_eq_true rfl) (gdec dt_X10_seatOf 2 rfl) rfl (st2 := [.int q1]) rfl ?_
  refine g_if_eq C (tgt := 19) (gdec dt_X10_seatOf 3 rfl) (by decide) (fun hc2 => ?_) (fun hc2 => ?_)
  · have hf := (if_pos hc2).symm.trans hf
    refine g_sub [0] (lo2 := [(0, .ref 0)]) rfl ?_
    exact L_X10_seatOf_19 C w hf
  · have hf := (if_neg hc2).symm.trans hf
    refine g_aload_n C (gdec dt_X10_seatOf 4 rfl) (i := 0) rfl rfl ?_
    refine g_getr C (j := 14) kf_X10_26 rfl rfl (gdec dt_X10_seatOf 5 rfl) ?_
    refine g_iload_n C (gdec dt_X10_seatOf 6 rfl) (i := 2) rfl rfl ?_
    obtain ⟨q3, hq3, hf⟩ := Option.bind_eq_some_iff.mp hf
    refine g_invVs e_shX_shB_14 [.int x2] [] C (c_X0_hasClerk l D cA _ (gInj_sub em_e_shX_shB_14 (gCi C)) (gsub w e_shX_shB_14) x2 q3 hq3) em_e_shX_shB_14 (by decide) rfl kT_X0_hasClerk kl_X10_266 kim_X0_hasClerk kse_X0_hasClerk rfl rfl (i := 14) rfl rfl ⟨by decide, by decide⟩ gk0 (Nat.le_of_ble_eq_true rfl) (gdec dt_X10_seatOf 7 rfl) rfl (st2 := [.int q3]) (w2 := w) rfl (gput_sub _ _) ?_
    refine g_if_ne C (tgt := 25) (gdec dt_X10_seatOf 8 rfl) (by decide) (fun hc4 => ?_) (fun hc4 => ?_)
    · have hf := (if_neg hc4).symm.trans hf
      refine g_aload_n C (gdec dt_X10_seatOf 13 rfl) (i := 0) rfl rfl ?_
      refine g_aload_n C (gdec dt_X10_seatOf 14 rfl) (i := 0) rfl rfl ?_
      refine g_getr C (j := 132) kf_X10_80 rfl rfl (gdec dt_X10_seatOf 15 rfl) ?_
      refine g_aload_n C (gdec dt_X10_seatOf 16 rfl) (i := 0) rfl rfl ?_
      refine g_getr C (j := 14) kf_X10_26 rfl rfl (gdec dt_X10_seatOf 17 rfl) ?_
      refine g_iload_n C (gdec dt_X10_seatOf 18 rfl) (i := 1) rfl rfl ?_
      refine g_iload_n C (gdec dt_X10_seatOf 19 rfl) (i := 2) rfl rfl ?_
      obtain ⟨q5, hq5, hf⟩ := Option.bind_eq_some_iff.mp hf
      refine g_invVs e_shX_shS_132_14 [.ref 14, .int x1, .int x2] [.ref 0] C (c_X7_bestSeat l D cA _ (gInj_sub em_e_shX_shS_132_14 (gCi C)) (gsub w e_shX_shS_132_14) x1 x2 q5 hq5) em_e_shX_shS_132_14 (by decide) rfl kT_X7_bestSeat kl_X10_354 kim_X7_bestSeat kse_X7_bestSeat rfl rfl (i := 132) rfl rfl ⟨by decide, by decide⟩ gk0 (Nat.le_of_ble_eq_true rfl) (gdec dt_X10_seatOf 20 rfl) rfl (st2 := [.int q5.1, .ref 0]) (w2 := (gput w e_shX_shS_132_14 q5.2)) rfl rfl ?_
      obtain ⟨q6, hq6, hf⟩ := Option.bind_eq_some_iff.mp hf
      refine g_invV [.int q5.1] [] C (c_X10_answer l D cA _ (gCi C) (gput w e_shX_shS_132_14 q5.2) q5.1 q6 hq6) kT_X10_answer kl_X10_114 kim_X10_answer kse_X10_answer rfl rfl (i := 0) rfl rfl ⟨by decide, by decide⟩ gk0 (Nat.le_of_ble_eq_true rfl) (gdec dt_X10_seatOf 21 rfl) rfl (st2 := [.int q6.1]) rfl ?_
      cases hf
      exact g_iret C rfl (gdec dt_X10_seatOf 22 rfl)
    · have hf := (if_pos hc4).symm.trans hf
      refine g_sub [0] (lo2 := [(0, .ref 0)]) rfl ?_
      exact L_X10_seatOf_19 C w hf
set_option maxHeartbeats 4000000 in
set_option maxRecDepth 100000 in
theorem c_X10_isSwapLiked (l : Launch) (D : va_G) (cA ad : Nat → Nat) (hin : gInj ad shX.length) (w : GW) (x1 : Int32) (x2 : Int32) (x3 : Int32) (q : Int32) (hf : F_X10_isSwapLiked w x1 x2 x3 = some q) : gMet l yX10_isSwapLiked cX10_isSwapLiked 6 (some .boolean) 3 167 D cA ad shX [.ref 0, .int x1, .int x2, .int x3] w (some (.int q)) w := by
  refine g_entry (by decide) hin (Nat.le_of_ble_eq_true rfl) ?_
  intro p e s m args below meth c C
  unfold F_X10_isSwapLiked at hf
  show gW p l e (gRm 3 167) s m args below meth c D cA ad shX 6 0 0 (gQ below D cA ad shX (some (.int q)) w args s) 0 [(0, .ref 0), (1, .int x1), (2, .int x2), (3, .int x3)] [] w
  refine g_aload_n C (gdec dt_X10_isSwapLiked 0 rfl) (i := 0) rfl rfl ?_
  refine g_getr C (j := 14) kf_X10_26 rfl rfl (gdec dt_X10_isSwapLiked 1 rfl) ?_
  refine g_iload_n C (gdec dt_X10_isSwapLiked 2 rfl) (i := 2) rfl rfl ?_
  refine g_iload_n C (gdec dt_X10_isSwapLiked 3 rfl) (i := 1) rfl rfl ?_
  obtain ⟨q1, hq1, hf⟩ := Option.bind_eq_some_iff.mp hf
  refine g_invVs e_shX_shB_14 [.int x2, .int x1] [] C (c_X0_greyStaying l D cA _ (gInj_sub em_e_shX_shB_14 (gCi C)) (gsub w e_shX_shB_14) x2 x1 q1 hq1) em_e_shX_shB_14 (by decide) rfl kT_X0_greyStaying kl_X10_341 kim_X0_greyStaying kse_X0_greyStaying rfl rfl (i := 14) rfl rfl ⟨by decide, by decide⟩ gk0 (Nat.le_of_ble_eq_true rfl) (gdec dt_X10_isSwapLiked 4 rfl) rfl (st2 := [.int q1]) (w2 := w) rfl (gput_sub _ _) ?_
  refine g_aload_n C (gdec dt_X10_isSwapLiked 5 rfl) (i := 0) rfl rfl ?_
  refine g_getr C (j := 14) kf_X10_26 rfl rfl (gdec dt_X10_isSwapLiked 6 rfl) ?_
  refine g_iload_n C (gdec dt_X10_isSwapLiked 7 rfl) (i := 3) rfl rfl ?_
  refine g_iload_n C (gdec dt_X10_isSwapLiked 8 rfl) (i := 1) rfl rfl ?_
  obtain ⟨q2, hq2, hf⟩ := Option.bind_eq_some_iff.mp hf
  refine g_invVs e_shX_shB_14 [.int x3, .int x1] [.int q1] C (c_X0_greyStaying l D cA _ (gInj_sub em_e_shX_shB_14 (gCi C)) (gsub w e_shX_shB_14) x3 x1 q2 hq2) em_e_shX_shB_14 (by decide) rfl kT_X0_greyStaying kl_X10_341 kim_X0_greyStaying kse_X0_greyStaying rfl rfl (i := 14) rfl rfl ⟨by decide, by decide⟩ gk0 (Nat.le_of_ble_eq_true rfl) (gdec dt_X10_isSwapLiked 9 rfl) rfl (st2 := [.int q2, .int q1]) (w2 := w) rfl (gput_sub _ _) ?_
  refine g_iadd C (gdec dt_X10_isSwapLiked 10 rfl) ?_
  refine g_istore C (gdec dt_X10_isSwapLiked 11 rfl) (by decide) (lo2 := [(4, .int (q1 + q2)), (0, .ref 0), (1, .int x1), (2, .int x2), (3, .int x3)]) rfl ?_
  refine g_aload_n C (gdec dt_X10_isSwapLiked 12 rfl) (i := 0) rfl rfl ?_
  refine g_getr C (j := 14) kf_X10_26 rfl rfl (gdec dt_X10_isSwapLiked 13 rfl) ?_
  refine g_iload_n C (gdec dt_X10_isSwapLiked 14 rfl) (i := 2) rfl rfl ?_
  refine g_aload_n C (gdec dt_X10_isSwapLiked 15 rfl) (i := 0) rfl rfl ?_
  refine g_getr C (j := 14) kf_X10_26 rfl rfl (gdec dt_X10_isSwapLiked 16 rfl) ?_
  refine g_getr C (j := 19) kf_X10_269 rfl rfl (gdec dt_X10_isSwapLiked 17 rfl) ?_
  refine g_iload_n C (gdec dt_X10_isSwapLiked 18 rfl) (i := 3) rfl rfl ?_
  obtain ⟨hg3, hf⟩ := gif hf
  refine g_iald C (i := 19) rfl hg3 rfl (gdec dt_X10_isSwapLiked 19 rfl) ?_
  refine g_iload_n C (gdec dt_X10_isSwapLiked 20 rfl) (i := 1) rfl rfl ?_
  obtain ⟨q4, hq4, hf⟩ := Option.bind_eq_some_iff.mp hf
  refine g_invVs e_shX_shB_14 [.int x2, .int (w.1 19 x3.toNatClampNeg), .int x1] [] C (c_X0_greySeated l D cA _ (gInj_sub em_e_shX_shB_14 (gCi C)) (gsub w e_shX_shB_14) x2 (w.1 19 x3.toNatClampNeg) x1 q4 hq4) em_e_shX_shB_14 (by decide) rfl kT_X0_greySeated kl_X10_361 kim_X0_greySeated kse_X0_greySeated rfl rfl (i := 14) rfl rfl ⟨by decide, by decide⟩ gk0 (Nat.le_of_ble_eq_true rfl) (gdec dt_X10_isSwapLiked 21 rfl) rfl (st2 := [.int q4]) (w2 := w) rfl (gput_sub _ _) ?_
  refine g_aload_n C (gdec dt_X10_isSwapLiked 22 rfl) (i := 0) rfl rfl ?_
  refine g_getr C (j := 14) kf_X10_26 rfl rfl (gdec dt_X10_isSwapLiked 23 rfl) ?_
  refine g_iload_n C (gdec dt_X10_isSwapLiked 24 rfl) (i := 3) rfl rfl ?_
  refine g_aload_n C (gdec dt_X10_isSwapLiked 25 rfl) (i := 0) rfl rfl ?_
  refine g_getr C (j := 14) kf_X10_26 rfl rfl (gdec dt_X10_isSwapLiked 26 rfl) ?_
  refine g_getr C (j := 19) kf_X10_269 rfl rfl (gdec dt_X10_isSwapLiked 27 rfl) ?_
  refine g_iload_n C (gdec dt_X10_isSwapLiked 28 rfl) (i := 2) rfl rfl ?_
  obtain ⟨hg5, hf⟩ := gif hf
  refine g_iald C (i := 19) rfl hg5 rfl (gdec dt_X10_isSwapLiked 29 rfl) ?_
  refine g_iload_n C (gdec dt_X10_isSwapLiked 30 rfl) (i := 1) rfl rfl ?_
  obtain ⟨q6, hq6, hf⟩ := Option.bind_eq_some_iff.mp hf
  refine g_invVs e_shX_shB_14 [.int x3, .int (w.1 19 x2.toNatClampNeg), .int x1] [.int q4] C (c_X0_greySeated l D cA _ (gInj_sub em_e_shX_shB_14 (gCi C)) (gsub w e_shX_shB_14) x3 (w.1 19 x2.toNatClampNeg) x1 q6 hq6) em_e_shX_shB_14 (by decide) rfl kT_X0_greySeated kl_X10_361 kim_X0_greySeated kse_X0_greySeated rfl rfl (i := 14) rfl rfl ⟨by decide, by decide⟩ gk0 (Nat.le_of_ble_eq_true rfl) (gdec dt_X10_isSwapLiked 31 rfl) rfl (st2 := [.int q6, .int q4]) (w2 := w) rfl (gput_sub _ _) ?_
  refine g_iadd C (gdec dt_X10_isSwapLiked 32 rfl) ?_
  refine g_istore C (gdec dt_X10_isSwapLiked 33 rfl) (by decide) (lo2 := [(5, .int (q4 + q6)), (4, .int (q1 + q2)), (0, .ref 0), (1, .int x1), (2, .int x2), (3, .int x3)]) rfl ?_
  refine g_iload C (gdec dt_X10_isSwapLiked 34 rfl) rfl ?_
  refine g_iload C (gdec dt_X10_isSwapLiked 35 rfl) rfl ?_
  refine g_icmp_le C (tgt := 71) (gdec dt_X10_isSwapLiked 36 rfl) (by decide) (fun hc7 => ?_) (fun hc7 => ?_)
  · have hf := (if_pos hc7).symm.trans hf
    refine g_iconst C (gdec dt_X10_isSwapLiked 39 rfl) ic_0 ?_
    cases hf
    exact g_zret C (Or.inl rfl) rfl (gdec dt_X10_isSwapLiked 40 rfl)
  · have hf := (if_neg hc7).symm.trans hf
    refine g_iconst C (gdec dt_X10_isSwapLiked 37 rfl) ic_1 ?_
    refine g_goto C (tgt := 72) (gdec dt_X10_isSwapLiked 38 rfl) (by decide) ?_
    cases hf
    exact g_zret C (Or.inr rfl) rfl (gdec dt_X10_isSwapLiked 40 rfl)
set_option maxHeartbeats 4000000 in
set_option maxRecDepth 100000 in
theorem L_X10_liked_60 {p : Program} {l : Launch} {e : Env} {s : State} {m : MethodId} {args : Array Value} {below : List Frame} {meth : Method} {c : Code} {D : va_G} {cA ad : Nat → Nat} {q : (Int32 × GW)} (C : gC p c cX10_liked meth m s args 5 (some .int) RX10 D cA ad shX) {k34 : Int32 → Int32 → Int32 → Int32 → GW → Option (Int32 × GW)} (hk34 : ∀ (x1 : Int32) (x2 : Int32) (x3 : Int32) (x4 : Int32) (w : GW), k34 x1 x2 x3 x4 w = some q → gW p l e (gRm 4 192) s m args below meth c D cA ad shX 5 0 0 (gQ below D cA ad shX (some (.int q.1)) q.2 args s) 34 [(0, .ref 0), (1, .int x1), (2, .int x2), (3, .int x3), (4, .int x4)] [] w) (x1 : Int32) (x2 : Int32) (x3 : Int32) (x4 : Int32) (w : GW) (hf : f_X10_liked_60 k34 x1 x2 x3 x4 w = some q) : gW p l e (gRm 4 192) s m args below meth c D cA ad shX 5 0 0 (gQ below D cA ad shX (some (.int q.1)) q.2 args s) 60 [(0, .ref 0), (1, .int x1), (2, .int x2), (3, .int x3), (4, .int x4)] [] w := by
  unfold f_X10_liked_60 at hf
  refine g_iinc C (gdec dt_X10_liked 33 rfl) (kk := 4) rfl (v := (x4 + (1 : Int32))) rfl (by decide) (lo2 := [(4, .int (x4 + (1 : Int32))), (0, .ref 0), (1, .int x1), (2, .int x2), (3, .int x3)]) rfl ?_
  refine g_goto C (tgt := 34) (gdec dt_X10_liked 34 rfl) (by decide) ?_
  refine g_sub [1, 2, 3, 4, 0] (lo2 := [(0, .ref 0), (1, .int x1), (2, .int x2), (3, .int x3), (4, .int (x4 + (1 : Int32)))]) rfl ?_
  exact hk34 x1 x2 x3 (x4 + (1 : Int32)) w hf
set_option maxHeartbeats 4000000 in
set_option maxRecDepth 100000 in
theorem Lb_X10_liked_34 {p : Program} {l : Launch} {e : Env} {s : State} {m : MethodId} {args : Array Value} {below : List Frame} {meth : Method} {c : Code} {D : va_G} {cA ad : Nat → Nat} {q : (Int32 × GW)} (C : gC p c cX10_liked meth m s args 5 (some .int) RX10 D cA ad shX) {k18 : Int32 → Int32 → Int32 → GW → Option (Int32 × GW)} (hk18 : ∀ (x1 : Int32) (x2 : Int32) (x3 : Int32) (w : GW), k18 x1 x2 x3 w = some q → gW p l e (gRm 4 192) s m args below meth c D cA ad shX 5 0 0 (gQ below D cA ad shX (some (.int q.1)) q.2 args s) 18 [(0, .ref 0), (1, .int x1), (2, .int x2), (3, .int x3)] [] w) {k34 : Int32 → Int32 → Int32 → Int32 → GW → Option (Int32 × GW)} (hk34 : ∀ (x1 : Int32) (x2 : Int32) (x3 : Int32) (x4 : Int32) (w : GW), k34 x1 x2 x3 x4 w = some q → gW p l e (gRm 4 192) s m args below meth c D cA ad shX 5 0 0 (gQ below D cA ad shX (some (.int q.1)) q.2 args s) 34 [(0, .ref 0), (1, .int x1), (2, .int x2), (3, .int x3), (4, .int x4)] [] w) (x1 : Int32) (x2 : Int32) (x3 : Int32) (x4 : Int32) (w : GW) (hf : b_X10_liked_34 k18 k34 x1 x2 x3 x4 w = some q) : gW p l e (gRm 4 192) s m args below meth c D cA ad shX 5 0 0 (gQ below D cA ad shX (some (.int q.1)) q.2 args s) 34 [(0, .ref 0), (1, .int x1), (2, .int x2), (3, .int x3), (4, .int x4)] [] w := by
  unfold b_X10_liked_34 at hf
  refine g_iload C (gdec dt_X10_liked 21 rfl) rfl ?_
  refine g_aload_n C (gdec dt_X10_liked 22 rfl) (i := 0) rfl rfl ?_
  refine g_getr C (j := 14) kf_X10_26 rfl rfl (gdec dt_X10_liked 23 rfl) ?_
  refine g_geti C kf_X10_190 rfl rfl (gdec dt_X10_liked 24 rfl) ?_
  refine g_icmp_ge C (tgt := 66) (gdec dt_X10_liked 25 rfl) (by decide) (fun hc6 => ?_) (fun hc6 => ?_)
  · have hf := (if_pos hc6).symm.trans hf
    refine g_iinc C (gdec dt_X10_liked 35 rfl) (kk := 3) rfl (v := (x3 + (1 : Int32))) rfl (by decide) (lo2 := [(3, .int (x3 + (1 : Int32))), (0, .ref 0), (1, .int x1), (2, .int x2), (4, .int x4)]) rfl ?_
    refine g_goto C (tgt := 18) (gdec dt_X10_liked 36 rfl) (by decide) ?_
    refine g_sub [1, 2, 3, 0] (lo2 := [(0, .ref 0), (1, .int x1), (2, .int x2), (3, .int (x3 + (1 : Int32)))]) rfl ?_
    exact hk18 x1 x2 (x3 + (1 : Int32)) w hf
  · have hf := (if_neg hc6).symm.trans hf
    refine g_aload_n C (gdec dt_X10_liked 26 rfl) (i := 0) rfl rfl ?_
    refine g_iload_n C (gdec dt_X10_liked 27 rfl) (i := 1) rfl rfl ?_
    refine g_iload_n C (gdec dt_X10_liked 28 rfl) (i := 3) rfl rfl ?_
    refine g_iload C (gdec dt_X10_liked 29 rfl) rfl ?_
    obtain ⟨q7, hq7, hf⟩ := Option.bind_eq_some_iff.mp hf
    refine g_invV [.int x1, .int x3, .int x4] [] C (c_X10_isSwapLiked l D cA _ (gCi C) w x1 x3 x4 q7 hq7) kT_X10_isSwapLiked kl_X10_358 kim_X10_isSwapLiked kse_X10_isSwapLiked rfl rfl (i := 0) rfl rfl ⟨by decide, by decide⟩ gk0 (Nat.le_of_ble_eq_true rfl) (gdec dt_X10_liked 30 rfl) rfl (st2 := [.int q7]) rfl ?_
    refine g_if_eq C (tgt := 60) (gdec dt_X10_liked 31 rfl) (by decide) (fun hc8 => ?_) (fun hc8 => ?_)
    · have hf := (if_pos hc8).symm.trans hf
      refine g_sub [0, 1, 2, 3, 4] (lo2 := [(0, .ref 0), (1, .int x1), (2, .int x2), (3, .int x3), (4, .int x4)]) rfl ?_
      exact L_X10_liked_60 C hk34 x1 x2 x3 x4 w hf
    · have hf := (if_neg hc8).symm.trans hf
      refine g_iinc C (gdec dt_X10_liked 32 rfl) (kk := 2) rfl (v := (x2 + (1 : Int32))) rfl (by decide) (lo2 := [(2, .int (x2 + (1 : Int32))), (0, .ref 0), (1, .int x1), (3, .int x3), (4, .int x4)]) rfl ?_
      refine g_sub [1, 2, 0, 3, 4] (lo2 := [(0, .ref 0), (1, .int x1), (2, .int (x2 + (1 : Int32))), (3, .int x3), (4, .int x4)]) rfl ?_
      exact L_X10_liked_60 C hk34 x1 (x2 + (1 : Int32)) x3 x4 w hf
theorem L_X10_liked_34 {p : Program} {l : Launch} {e : Env} {s : State} {m : MethodId} {args : Array Value} {below : List Frame} {meth : Method} {c : Code} {D : va_G} {cA ad : Nat → Nat} {q : (Int32 × GW)} (C : gC p c cX10_liked meth m s args 5 (some .int) RX10 D cA ad shX) {k18 : Int32 → Int32 → Int32 → GW → Option (Int32 × GW)} (hk18 : ∀ (x1 : Int32) (x2 : Int32) (x3 : Int32) (w : GW), k18 x1 x2 x3 w = some q → gW p l e (gRm 4 192) s m args below meth c D cA ad shX 5 0 0 (gQ below D cA ad shX (some (.int q.1)) q.2 args s) 18 [(0, .ref 0), (1, .int x1), (2, .int x2), (3, .int x3)] [] w) : ∀ (n : Nat) (x1 : Int32) (x2 : Int32) (x3 : Int32) (x4 : Int32) (w : GW), f_X10_liked_34 k18 n x1 x2 x3 x4 w = some q → gW p l e (gRm 4 192) s m args below meth c D cA ad shX 5 0 0 (gQ below D cA ad shX (some (.int q.1)) q.2 args s) 34 [(0, .ref 0), (1, .int x1), (2, .int x2), (3, .int x3), (4, .int x4)] [] w := by
  intro n
  induction n with
  | zero => intro _ _ _ _ _ hf; cases hf
  | succ n ih => intro x1 x2 x3 x4 w hf; exact Lb_X10_liked_34 C hk18 ih x1 x2 x3 x4 w hf
set_option maxHeartbeats 4000000 in
set_option maxRecDepth 100000 in
theorem Lb_X10_liked_18 {p : Program} {l : Launch} {e : Env} {s : State} {m : MethodId} {args : Array Value} {below : List Frame} {meth : Method} {c : Code} {D : va_G} {cA ad : Nat → Nat} {q : (Int32 × GW)} (C : gC p c cX10_liked meth m s args 5 (some .int) RX10 D cA ad shX) {k18 : Int32 → Int32 → Int32 → GW → Option (Int32 × GW)} (hk18 : ∀ (x1 : Int32) (x2 : Int32) (x3 : Int32) (w : GW), k18 x1 x2 x3 w = some q → gW p l e (gRm 4 192) s m args below meth c D cA ad shX 5 0 0 (gQ below D cA ad shX (some (.int q.1)) q.2 args s) 18 [(0, .ref 0), (1, .int x1), (2, .int x2), (3, .int x3)] [] w) (x1 : Int32) (x2 : Int32) (x3 : Int32) (w : GW) (hf : b_X10_liked_18 k18 x1 x2 x3 w = some q) : gW p l e (gRm 4 192) s m args below meth c D cA ad shX 5 0 0 (gQ below D cA ad shX (some (.int q.1)) q.2 args s) 18 [(0, .ref 0), (1, .int x1), (2, .int x2), (3, .int x3)] [] w := by
  unfold b_X10_liked_18 at hf
  refine g_iload_n C (gdec dt_X10_liked 12 rfl) (i := 3) rfl rfl ?_
  refine g_aload_n C (gdec dt_X10_liked 13 rfl) (i := 0) rfl rfl ?_
  refine g_getr C (j := 14) kf_X10_26 rfl rfl (gdec dt_X10_liked 14 rfl) ?_
  refine g_geti C kf_X10_190 rfl rfl (gdec dt_X10_liked 15 rfl) ?_
  refine g_icmp_ge C (tgt := 72) (gdec dt_X10_liked 16 rfl) (by decide) (fun hc4 => ?_) (fun hc4 => ?_)
  · have hf := (if_pos hc4).symm.trans hf
    refine g_aload_n C (gdec dt_X10_liked 37 rfl) (i := 0) rfl rfl ?_
    refine g_iload_n C (gdec dt_X10_liked 38 rfl) (i := 2) rfl rfl ?_
    obtain ⟨q5, hq5, hf⟩ := Option.bind_eq_some_iff.mp hf
    refine g_invV [.int x2] [] C (c_X10_answer l D cA _ (gCi C) w x2 q5 hq5) kT_X10_answer kl_X10_114 kim_X10_answer kse_X10_answer rfl rfl (i := 0) rfl rfl ⟨by decide, by decide⟩ gk0 (Nat.le_of_ble_eq_true rfl) (gdec dt_X10_liked 39 rfl) rfl (st2 := [.int q5.1]) rfl ?_
    cases hf
    exact g_iret C rfl (gdec dt_X10_liked 40 rfl)
  · have hf := (if_neg hc4).symm.trans hf
    refine g_iload_n C (gdec dt_X10_liked 17 rfl) (i := 3) rfl rfl ?_
    refine g_iconst C (gdec dt_X10_liked 18 rfl) ic_1 ?_
    refine g_iadd C (gdec dt_X10_liked 19 rfl) ?_
    refine g_istore C (gdec dt_X10_liked 20 rfl) (by decide) (lo2 := [(4, .int (x3 + (1 : Int32))), (0, .ref 0), (1, .int x1), (2, .int x2), (3, .int x3)]) rfl ?_
    refine g_sub [1, 2, 3, 4, 0] (lo2 := [(0, .ref 0), (1, .int x1), (2, .int x2), (3, .int x3), (4, .int (x3 + (1 : Int32)))]) rfl ?_
    exact L_X10_liked_34 C hk18 FU x1 x2 x3 (x3 + (1 : Int32)) w hf
theorem L_X10_liked_18 {p : Program} {l : Launch} {e : Env} {s : State} {m : MethodId} {args : Array Value} {below : List Frame} {meth : Method} {c : Code} {D : va_G} {cA ad : Nat → Nat} {q : (Int32 × GW)} (C : gC p c cX10_liked meth m s args 5 (some .int) RX10 D cA ad shX) : ∀ (n : Nat) (x1 : Int32) (x2 : Int32) (x3 : Int32) (w : GW), f_X10_liked_18 n x1 x2 x3 w = some q → gW p l e (gRm 4 192) s m args below meth c D cA ad shX 5 0 0 (gQ below D cA ad shX (some (.int q.1)) q.2 args s) 18 [(0, .ref 0), (1, .int x1), (2, .int x2), (3, .int x3)] [] w := by
  intro n
  induction n with
  | zero => intro _ _ _ _ hf; cases hf
  | succ n ih => intro x1 x2 x3 w hf; exact Lb_X10_liked_18 C ih x1 x2 x3 w hf
set_option maxHeartbeats 4000000 in
set_option maxRecDepth 100000 in
theorem c_X10_liked (l : Launch) (D : va_G) (cA ad : Nat → Nat) (hin : gInj ad shX.length) (w : GW) (x1 : Int32) (q : (Int32 × GW)) (hf : F_X10_liked x1 w = some q) : gMet l yX10_liked cX10_liked 5 (some .int) 4 192 D cA ad shX [.ref 0, .int x1] w (some (.int q.1)) q.2 := by
  refine g_entry (by decide) hin (Nat.le_of_ble_eq_true rfl) ?_
  intro p e s m args below meth c C
  unfold F_X10_liked at hf
  show gW p l e (gRm 4 192) s m args below meth c D cA ad shX 5 0 0 (gQ below D cA ad shX (some (.int q.1)) q.2 args s) 0 [(0, .ref 0), (1, .int x1)] [] w
  refine g_aload_n C (gdec dt_X10_liked 0 rfl) (i := 0) rfl rfl ?_
  refine g_iload_n C (gdec dt_X10_liked 1 rfl) (i := 1) rfl rfl ?_
  obtain ⟨q1, hq1, hf⟩ := Option.bind_eq_some_iff.mp hf
  refine g_invV [.int x1] [] C (c_X10_isYears l D cA _ (gCi C) w x1 q1 hq1) kT_X10_isYears kl_X10_338 kim_X10_isYears kse_X10_isYears rfl rfl (i := 0) rfl rfl ⟨by decide, by decide⟩ gk0 (Nat.le_of_ble_eq_true rfl) (gdec dt_X10_liked 2 rfl) rfl (st2 := [.int q1]) rfl ?_
  refine g_if_ne C (tgt := 14) (gdec dt_X10_liked 3 rfl) (by decide) (fun hc2 => ?_) (fun hc2 => ?_)
  · have hf := (if_neg hc2).symm.trans hf
    refine g_iconst C (gdec dt_X10_liked 8 rfl) ic_0 ?_
    refine g_istore_n C (gdec dt_X10_liked 9 rfl) (i := 2) rfl (by decide) (lo2 := [(2, .int (0 : Int32)), (0, .ref 0), (1, .int x1)]) rfl ?_
    refine g_iconst C (gdec dt_X10_liked 10 rfl) ic_0 ?_
    refine g_istore_n C (gdec dt_X10_liked 11 rfl) (i := 3) rfl (by decide) (lo2 := [(3, .int (0 : Int32)), (2, .int (0 : Int32)), (0, .ref 0), (1, .int x1)]) rfl ?_
    refine g_sub [2, 3, 1, 0] (lo2 := [(0, .ref 0), (1, .int x1), (2, .int (0 : Int32)), (3, .int (0 : Int32))]) rfl ?_
    exact L_X10_liked_18 C FU x1 (0 : Int32) (0 : Int32) w hf
  · have hf := (if_pos hc2).symm.trans hf
    refine g_aload_n C (gdec dt_X10_liked 4 rfl) (i := 0) rfl rfl ?_
    refine g_iconst C (gdec dt_X10_liked 5 rfl) ic_1 ?_
    obtain ⟨q3, hq3, hf⟩ := Option.bind_eq_some_iff.mp hf
    refine g_invV [.int (1 : Int32)] [] C (c_X10_refuse l D cA _ (gCi C) w (1 : Int32) q3 hq3) kT_X10_refuse kl_X10_110 kim_X10_refuse kse_X10_refuse rfl rfl (i := 0) rfl rfl ⟨by decide, by decide⟩ gk0 (Nat.le_of_ble_eq_true rfl) (gdec dt_X10_liked 6 rfl) rfl (st2 := [.int q3.1]) rfl ?_
    cases hf
    exact g_iret C rfl (gdec dt_X10_liked 7 rfl)
set_option maxHeartbeats 4000000 in
set_option maxRecDepth 100000 in
theorem L_X10_isLiked_17 {p : Program} {l : Launch} {e : Env} {s : State} {m : MethodId} {args : Array Value} {below : List Frame} {meth : Method} {c : Code} {D : va_G} {cA ad : Nat → Nat} {q : (Int32 × GW)} (C : gC p c cX10_isLiked meth m s args 4 (some .int) RX10 D cA ad shX) (w : GW) (hf : f_X10_isLiked_17 w = some q) : gW p l e (gRm 4 192) s m args below meth c D cA ad shX 4 0 0 (gQ below D cA ad shX (some (.int q.1)) q.2 args s) 17 [(0, .ref 0)] [] w := by
  unfold f_X10_isLiked_17 at hf
  refine g_aload_n C (gdec dt_X10_isLiked 9 rfl) (i := 0) rfl rfl ?_
  refine g_iconst C (gdec dt_X10_isLiked 10 rfl) ic_1 ?_
  obtain ⟨q7, hq7, hf⟩ := Option.bind_eq_some_iff.mp hf
  refine g_invV [.int (1 : Int32)] [] C (c_X10_refuse l D cA _ (gCi C) w (1 : Int32) q7 hq7) kT_X10_refuse kl_X10_110 kim_X10_refuse kse_X10_refuse rfl rfl (i := 0) rfl rfl ⟨by decide, by decide⟩ gk0 (Nat.le_of_ble_eq_true rfl) (gdec dt_X10_isLiked 11 rfl) rfl (st2 := [.int q7.1]) rfl ?_
  cases hf
  exact g_iret C rfl (gdec dt_X10_isLiked 12 rfl)
set_option maxHeartbeats 4000000 in
set_option maxRecDepth 100000 in
theorem L_X10_isLiked_39 {p : Program} {l : Launch} {e : Env} {s : State} {m : MethodId} {args : Array Value} {below : List Frame} {meth : Method} {c : Code} {D : va_G} {cA ad : Nat → Nat} {q : (Int32 × GW)} (C : gC p c cX10_isLiked meth m s args 4 (some .int) RX10 D cA ad shX) (s0 : Int32) (w : GW) (hf : f_X10_isLiked_39 s0 w = some q) : gW p l e (gRm 4 192) s m args below meth c D cA ad shX 4 0 0 (gQ below D cA ad shX (some (.int q.1)) q.2 args s) 39 [] [.int s0, .ref 0] w := by
  unfold f_X10_isLiked_39 at hf
  obtain ⟨q8, hq8, hf⟩ := Option.bind_eq_some_iff.mp hf
  refine g_invV [.int s0] [] C (c_X10_answer l D cA _ (gCi C) w s0 q8 hq8) kT_X10_answer kl_X10_114 kim_X10_answer kse_X10_answer rfl rfl (i := 0) rfl rfl ⟨by decide, by decide⟩ gk0 (Nat.le_of_ble_eq_true rfl) (gdec dt_X10_isLiked 23 rfl) rfl (st2 := [.int q8.1]) rfl ?_
  cases hf
  exact g_iret C rfl (gdec dt_X10_isLiked 24 rfl)
set_option maxHeartbeats 4000000 in
set_option maxRecDepth 100000 in
theorem c_X10_isLiked (l : Launch) (D : va_G) (cA ad : Nat → Nat) (hin : gInj ad shX.length) (w : GW) (x1 : Int32) (x2 : Int32) (x3 : Int32) (q : (Int32 × GW)) (hf : F_X10_isLiked x1 x2 x3 w = some q) : gMet l yX10_isLiked cX10_isLiked 4 (some .int) 4 192 D cA ad shX [.ref 0, .int x1, .int x2, .int x3] w (some (.int q.1)) q.2 := by
  refine g_entry (by decide) hin (Nat.le_of_ble_eq_true rfl) ?_
  intro p e s m args below meth c C
  unfold F_X10_isLiked at hf
  show gW p l e (gRm 4 192) s m args below meth c D cA ad shX 4 0 0 (gQ below D cA ad shX (some (.int q.1)) q.2 args s) 0 [(0, .ref 0), (1, .int x1), (2, .int x2), (3, .int x3)] [] w
  refine g_aload_n C (gdec dt_X10_isLiked 0 rfl) (i := 0) rfl rfl ?_
  refine g_iload_n C (gdec dt_X10_isLiked 1 rfl) (i := 1) rfl rfl ?_
  obtain ⟨q1, hq1, hf⟩ := Option.bind_eq_some_iff.mp hf
  refine g_invV [.int x1] [] C (c_X10_isYears l D cA _ (gCi C) w x1 q1 hq1) kT_X10_isYears kl_X10_338 kim_X10_isYears kse_X10_isYears rfl rfl (i := 0) rfl rfl ⟨by decide, by decide⟩ gk0 (Nat.le_of_ble_eq_true rfl) (gdec dt_X10_isLiked 2 rfl) rfl (st2 := [.int q1]) rfl ?_
  refine g_if_eq C (tgt := 17) (gdec dt_X10_isLiked 3 rfl) (by decide) (fun hc2 => ?_) (fun hc2 => ?_)
  · have hf := (if_pos hc2).symm.trans hf
    refine g_sub [0] (lo2 := [(0, .ref 0)]) rfl ?_
    exact L_X10_isLiked_17 C w hf
  · have hf := (if_neg hc2).symm.trans hf
    refine g_aload_n C (gdec dt_X10_isLiked 4 rfl) (i := 0) rfl rfl ?_
    refine g_iload_n C (gdec dt_X10_isLiked 5 rfl) (i := 2) rfl rfl ?_
    refine g_iload_n C (gdec dt_X10_isLiked 6 rfl) (i := 3) rfl rfl ?_
    obtain ⟨q3, hq3, hf⟩ := Option.bind_eq_some_iff.mp hf
    refine g_invV [.int x2, .int x3] [] C (c_X10_areTwo l D cA _ (gCi C) w x2 x3 q3 hq3) kT_X10_areTwo kl_X10_308 kim_X10_areTwo kse_X10_areTwo rfl rfl (i := 0) rfl rfl ⟨by decide, by decide⟩ gk0 (Nat.le_of_ble_eq_true rfl) (gdec dt_X10_isLiked 7 rfl) rfl (st2 := [.int q3]) rfl ?_
    refine g_if_ne C (tgt := 23) (gdec dt_X10_isLiked 8 rfl) (by decide) (fun hc4 => ?_) (fun hc4 => ?_)
    · have hf := (if_neg hc4).symm.trans hf
      refine g_aload_n C (gdec dt_X10_isLiked 13 rfl) (i := 0) rfl rfl ?_
      refine g_aload_n C (gdec dt_X10_isLiked 14 rfl) (i := 0) rfl rfl ?_
      refine g_iload_n C (gdec dt_X10_isLiked 15 rfl) (i := 1) rfl rfl ?_
      refine g_iload_n C (gdec dt_X10_isLiked 16 rfl) (i := 2) rfl rfl ?_
      refine g_iload_n C (gdec dt_X10_isLiked 17 rfl) (i := 3) rfl rfl ?_
      obtain ⟨q5, hq5, hf⟩ := Option.bind_eq_some_iff.mp hf
      refine g_invV [.int x1, .int x2, .int x3] [.ref 0] C (c_X10_isSwapLiked l D cA _ (gCi C) w x1 x2 x3 q5 hq5) kT_X10_isSwapLiked kl_X10_358 kim_X10_isSwapLiked kse_X10_isSwapLiked rfl rfl (i := 0) rfl rfl ⟨by decide, by decide⟩ gk0 (Nat.le_of_ble_eq_true rfl) (gdec dt_X10_isLiked 18 rfl) rfl (st2 := [.int q5, .ref 0]) rfl ?_
      refine g_if_eq C (tgt := 38) (gdec dt_X10_isLiked 19 rfl) (by decide) (fun hc6 => ?_) (fun hc6 => ?_)
      · have hf := (if_pos hc6).symm.trans hf
        refine g_iconst C (gdec dt_X10_isLiked 22 rfl) ic_0 ?_
        refine g_sub [] (lo2 := []) rfl ?_
        exact L_X10_isLiked_39 C (0 : Int32) w hf
      · have hf := (if_neg hc6).symm.trans hf
        refine g_iconst C (gdec dt_X10_isLiked 20 rfl) ic_1 ?_
        refine g_goto C (tgt := 39) (gdec dt_X10_isLiked 21 rfl) (by decide) ?_
        refine g_sub [] (lo2 := []) rfl ?_
        exact L_X10_isLiked_39 C (1 : Int32) w hf
    · have hf := (if_pos hc4).symm.trans hf
      refine g_sub [0] (lo2 := [(0, .ref 0)]) rfl ?_
      exact L_X10_isLiked_17 C w hf
set_option maxHeartbeats 4000000 in
set_option maxRecDepth 100000 in
theorem Lb_X10_yearsTill_44 {p : Program} {l : Launch} {e : Env} {s : State} {m : MethodId} {args : Array Value} {below : List Frame} {meth : Method} {c : Code} {D : va_G} {cA ad : Nat → Nat} {w : GW} {q : Int32} (C : gC p c cX10_yearsTill meth m s args 6 (some .int) RX10 D cA ad shX) {k44 : Int32 → Int32 → Int32 → Int32 → Int32 → Option Int32} (hk44 : ∀ (x1 : Int32) (x2 : Int32) (x3 : Int32) (x4 : Int32) (x5 : Int32), k44 x1 x2 x3 x4 x5 = some q → gW p l e (gRm 3 167) s m args below meth c D cA ad shX 6 0 0 (gQ below D cA ad shX (some (.int q)) w args s) 44 [(0, .ref 0), (1, .int x1), (2, .int x2), (3, .int x3), (4, .int x4), (5, .int x5)] [] w) (x1 : Int32) (x2 : Int32) (x3 : Int32) (x4 : Int32) (x5 : Int32) (hf : b_X10_yearsTill_44 k44 w x1 x2 x3 x4 x5 = some q) : gW p l e (gRm 3 167) s m args below meth c D cA ad shX 6 0 0 (gQ below D cA ad shX (some (.int q)) w args s) 44 [(0, .ref 0), (1, .int x1), (2, .int x2), (3, .int x3), (4, .int x4), (5, .int x5)] [] w := by
  unfold b_X10_yearsTill_44 at hf
  refine g_iload C (gdec dt_X10_yearsTill 24 rfl) rfl ?_
  refine g_bipush C (gdec dt_X10_yearsTill 25 rfl) bc_99 ?_
  refine g_icmp_gt C (tgt := 88) (gdec dt_X10_yearsTill 26 rfl) (by decide) (fun hc5 => ?_) (fun hc5 => ?_)
  · have hf := (if_pos hc5).symm.trans hf
    refine g_iconst C (gdec dt_X10_yearsTill 45 rfl) ic_m1 ?_
    cases hf
    exact g_iret C rfl (gdec dt_X10_yearsTill 46 rfl)
  · have hf := (if_neg hc5).symm.trans hf
    refine g_aload_n C (gdec dt_X10_yearsTill 27 rfl) (i := 0) rfl rfl ?_
    refine g_getr C (j := 14) kf_X10_26 rfl rfl (gdec dt_X10_yearsTill 28 rfl) ?_
    refine g_iload_n C (gdec dt_X10_yearsTill 29 rfl) (i := 1) rfl rfl ?_
    refine g_iload_n C (gdec dt_X10_yearsTill 30 rfl) (i := 2) rfl rfl ?_
    refine g_iload C (gdec dt_X10_yearsTill 31 rfl) rfl ?_
    obtain ⟨q6, hq6, hf⟩ := Option.bind_eq_some_iff.mp hf
    refine g_invVs e_shX_shB_14 [.int x1, .int x2, .int x5] [] C (c_X0_greySeated l D cA _ (gInj_sub em_e_shX_shB_14 (gCi C)) (gsub w e_shX_shB_14) x1 x2 x5 q6 hq6) em_e_shX_shB_14 (by decide) rfl kT_X0_greySeated kl_X10_361 kim_X0_greySeated kse_X0_greySeated rfl rfl (i := 14) rfl rfl ⟨by decide, by decide⟩ gk0 (Nat.le_of_ble_eq_true rfl) (gdec dt_X10_yearsTill 32 rfl) rfl (st2 := [.int q6]) (w2 := w) rfl (gput_sub _ _) ?_
    refine g_iload C (gdec dt_X10_yearsTill 33 rfl) rfl ?_
    obtain ⟨q7, hq7, hf⟩ := Option.bind_eq_some_iff.mp hf
    refine g_invSs e_nil [.int q6, .int x4] [] C (c_X10_looksBy l D cA _ (gInj_sub em_e_nil_shX (gCi C)) (gsub w e_nil) q6 x4 q7 hq7) em_e_nil_shX (by decide) rfl kT_X10_looksBy kl_X10_344 kst_X10_looksBy rfl rfl ⟨by decide, by decide⟩ gk0 (Nat.le_of_ble_eq_true rfl) (gdec dt_X10_yearsTill 34 rfl) rfl (st2 := [.int q7]) (w2 := w) rfl (gput_sub _ _) ?_
    refine g_aload_n C (gdec dt_X10_yearsTill 35 rfl) (i := 0) rfl rfl ?_
    refine g_getr C (j := 14) kf_X10_26 rfl rfl (gdec dt_X10_yearsTill 36 rfl) ?_
    refine g_getr C (j := 16) kf_X10_258 rfl rfl (gdec dt_X10_yearsTill 37 rfl) ?_
    refine g_iload_n C (gdec dt_X10_yearsTill 38 rfl) (i := 3) rfl rfl ?_
    obtain ⟨hg8, hf⟩ := gif hf
    refine g_iald C (i := 16) rfl hg8 rfl (gdec dt_X10_yearsTill 39 rfl) ?_
    refine g_icmp_lt C (tgt := 82) (gdec dt_X10_yearsTill 40 rfl) (by decide) (fun hc9 => ?_) (fun hc9 => ?_)
    · have hf := (if_pos hc9).symm.trans hf
      refine g_iinc C (gdec dt_X10_yearsTill 43 rfl) (kk := 5) rfl (v := (x5 + (1 : Int32))) rfl (by decide) (lo2 := [(5, .int (x5 + (1 : Int32))), (0, .ref 0), (1, .int x1), (2, .int x2), (3, .int x3), (4, .int x4)]) rfl ?_
      refine g_goto C (tgt := 44) (gdec dt_X10_yearsTill 44 rfl) (by decide) ?_
      refine g_sub [1, 2, 3, 4, 5, 0] (lo2 := [(0, .ref 0), (1, .int x1), (2, .int x2), (3, .int x3), (4, .int x4), (5, .int (x5 + (1 : Int32)))]) rfl ?_
      exact hk44 x1 x2 x3 x4 (x5 + (1 : Int32)) hf
    · have hf := (if_neg hc9).symm.trans hf
      refine g_iload C (gdec dt_X10_yearsTill 41 rfl) rfl ?_
      cases hf
      exact g_iret C rfl (gdec dt_X10_yearsTill 42 rfl)
theorem L_X10_yearsTill_44 {p : Program} {l : Launch} {e : Env} {s : State} {m : MethodId} {args : Array Value} {below : List Frame} {meth : Method} {c : Code} {D : va_G} {cA ad : Nat → Nat} {w : GW} {q : Int32} (C : gC p c cX10_yearsTill meth m s args 6 (some .int) RX10 D cA ad shX) : ∀ (n : Nat) (x1 : Int32) (x2 : Int32) (x3 : Int32) (x4 : Int32) (x5 : Int32), f_X10_yearsTill_44 w n x1 x2 x3 x4 x5 = some q → gW p l e (gRm 3 167) s m args below meth c D cA ad shX 6 0 0 (gQ below D cA ad shX (some (.int q)) w args s) 44 [(0, .ref 0), (1, .int x1), (2, .int x2), (3, .int x3), (4, .int x4), (5, .int x5)] [] w := by
  intro n
  induction n with
  | zero => intro _ _ _ _ _ hf; cases hf
  | succ n ih => intro x1 x2 x3 x4 x5 hf; exact Lb_X10_yearsTill_44 C ih x1 x2 x3 x4 x5 hf
set_option maxHeartbeats 4000000 in
set_option maxRecDepth 100000 in
theorem L_X10_yearsTill_39 {p : Program} {l : Launch} {e : Env} {s : State} {m : MethodId} {args : Array Value} {below : List Frame} {meth : Method} {c : Code} {D : va_G} {cA ad : Nat → Nat} {w : GW} {q : Int32} (C : gC p c cX10_yearsTill meth m s args 6 (some .int) RX10 D cA ad shX) (x1 : Int32) (x2 : Int32) (x3 : Int32) (s0 : Int32) (hf : f_X10_yearsTill_39 w x1 x2 x3 s0 = some q) : gW p l e (gRm 3 167) s m args below meth c D cA ad shX 6 0 0 (gQ below D cA ad shX (some (.int q)) w args s) 39 [(0, .ref 0), (1, .int x1), (2, .int x2), (3, .int x3)] [.int s0] w := by
  unfold f_X10_yearsTill_39 at hf
  refine g_istore C (gdec dt_X10_yearsTill 21 rfl) (by decide) (lo2 := [(4, .int s0), (0, .ref 0), (1, .int x1), (2, .int x2), (3, .int x3)]) rfl ?_
  refine g_iconst C (gdec dt_X10_yearsTill 22 rfl) ic_0 ?_
  refine g_istore C (gdec dt_X10_yearsTill 23 rfl) (by decide) (lo2 := [(5, .int (0 : Int32)), (4, .int s0), (0, .ref 0), (1, .int x1), (2, .int x2), (3, .int x3)]) rfl ?_
  refine g_sub [2, 3, 4, 5, 1, 0] (lo2 := [(0, .ref 0), (1, .int x1), (2, .int x2), (3, .int x3), (4, .int s0), (5, .int (0 : Int32))]) rfl ?_
  exact L_X10_yearsTill_44 C FU x1 x2 x3 s0 (0 : Int32) hf
set_option maxHeartbeats 4000000 in
set_option maxRecDepth 100000 in
theorem c_X10_yearsTill (l : Launch) (D : va_G) (cA ad : Nat → Nat) (hin : gInj ad shX.length) (w : GW) (x1 : Int32) (x2 : Int32) (x3 : Int32) (q : Int32) (hf : F_X10_yearsTill w x1 x2 x3 = some q) : gMet l yX10_yearsTill cX10_yearsTill 6 (some .int) 3 167 D cA ad shX [.ref 0, .int x1, .int x2, .int x3] w (some (.int q)) w := by
  refine g_entry (by decide) hin (Nat.le_of_ble_eq_true rfl) ?_
  intro p e s m args below meth c C
  unfold F_X10_yearsTill at hf
  show gW p l e (gRm 3 167) s m args below meth c D cA ad shX 6 0 0 (gQ below D cA ad shX (some (.int q)) w args s) 0 [(0, .ref 0), (1, .int x1), (2, .int x2), (3, .int x3)] [] w
  refine g_aload_n C (gdec dt_X10_yearsTill 0 rfl) (i := 0) rfl rfl ?_
  refine g_getr C (j := 14) kf_X10_26 rfl rfl (gdec dt_X10_yearsTill 1 rfl) ?_
  refine g_iload_n C (gdec dt_X10_yearsTill 2 rfl) (i := 2) rfl rfl ?_
  obtain ⟨q1, hq1, hf⟩ := Option.bind_eq_some_iff.mp hf
  refine g_invVs e_shX_shB_14 [.int x2] [] C (c_X0_hasCorner l D cA _ (gInj_sub em_e_shX_shB_14 (gCi C)) (gsub w e_shX_shB_14) x2 q1 hq1) em_e_shX_shB_14 (by decide) rfl kT_X0_hasCorner kl_X10_242 kim_X0_hasCorner kse_X0_hasCorner rfl rfl (i := 14) rfl rfl ⟨by decide, by decide⟩ gk0 (Nat.le_of_ble_eq_true rfl) (gdec dt_X10_yearsTill 3 rfl) rfl (st2 := [.int q1]) (w2 := w) rfl (gput_sub _ _) ?_
  refine g_if_ne C (tgt := 13) (gdec dt_X10_yearsTill 4 rfl) (by decide) (fun hc2 => ?_) (fun hc2 => ?_)
  · have hf := (if_neg hc2).symm.trans hf
    refine g_iload_n C (gdec dt_X10_yearsTill 7 rfl) (i := 2) rfl rfl ?_
    refine g_aload_n C (gdec dt_X10_yearsTill 8 rfl) (i := 0) rfl rfl ?_
    refine g_getr C (j := 14) kf_X10_26 rfl rfl (gdec dt_X10_yearsTill 9 rfl) ?_
    refine g_getr C (j := 19) kf_X10_269 rfl rfl (gdec dt_X10_yearsTill 10 rfl) ?_
    refine g_iload_n C (gdec dt_X10_yearsTill 11 rfl) (i := 1) rfl rfl ?_
    obtain ⟨hg3, hf⟩ := gif hf
    refine g_iald C (i := 19) rfl hg3 rfl (gdec dt_X10_yearsTill 12 rfl) ?_
    refine g_icmp_ne C (tgt := 38) (gdec dt_X10_yearsTill 13 rfl) (by decide) (fun hc4 => ?_) (fun hc4 => ?_)
    · have hf := (if_neg hc4).symm.trans hf
      refine g_iconst C (gdec dt_X10_yearsTill 20 rfl) ic_0 ?_
      refine g_sub [0, 1, 2, 3] (lo2 := [(0, .ref 0), (1, .int x1), (2, .int x2), (3, .int x3)]) rfl ?_
      exact L_X10_yearsTill_39 C x1 x2 x3 (0 : Int32) hf
    · have hf := (if_pos hc4).symm.trans hf
      refine g_aload_n C (gdec dt_X10_yearsTill 14 rfl) (i := 0) rfl rfl ?_
      refine g_getr C (j := 14) kf_X10_26 rfl rfl (gdec dt_X10_yearsTill 15 rfl) ?_
      refine g_getr C (j := 22) kf_X10_278 rfl rfl (gdec dt_X10_yearsTill 16 rfl) ?_
      refine g_iload_n C (gdec dt_X10_yearsTill 17 rfl) (i := 1) rfl rfl ?_
      refine g_iald C (i := 22) rfl hg3 rfl (gdec dt_X10_yearsTill 18 rfl) ?_
      refine g_goto C (tgt := 39) (gdec dt_X10_yearsTill 19 rfl) (by decide) ?_
      refine g_sub [0, 1, 2, 3] (lo2 := [(0, .ref 0), (1, .int x1), (2, .int x2), (3, .int x3)]) rfl ?_
      exact L_X10_yearsTill_39 C x1 x2 x3 (w.1 22 x1.toNatClampNeg) hf
  · have hf := (if_pos hc2).symm.trans hf
    refine g_iconst C (gdec dt_X10_yearsTill 5 rfl) ic_m1 ?_
    cases hf
    exact g_iret C rfl (gdec dt_X10_yearsTill 6 rfl)
set_option maxHeartbeats 4000000 in
set_option maxRecDepth 100000 in
theorem L_X10_soonestCorner_99 {p : Program} {l : Launch} {e : Env} {s : State} {m : MethodId} {args : Array Value} {below : List Frame} {meth : Method} {c : Code} {D : va_G} {cA ad : Nat → Nat} {w : GW} {q : Int32} (C : gC p c cX10_soonestCorner meth m s args 7 (some .int) RX10 D cA ad shX) {k38 : Int32 → Int32 → Int32 → Int32 → Int32 → Option Int32} (hk38 : ∀ (x1 : Int32) (x2 : Int32) (x3 : Int32) (x4 : Int32) (x5 : Int32), k38 x1 x2 x3 x4 x5 = some q → gW p l e (gRm 4 192) s m args below meth c D cA ad shX 7 0 0 (gQ below D cA ad shX (some (.int q)) w args s) 38 [(0, .ref 0), (1, .int x1), (2, .int x2), (3, .int x3), (4, .int x4), (5, .int x5)] [] w) (x1 : Int32) (x2 : Int32) (x3 : Int32) (x4 : Int32) (x5 : Int32) (hf : f_X10_soonestCorner_99 k38 w x1 x2 x3 x4 x5 = some q) : gW p l e (gRm 4 192) s m args below meth c D cA ad shX 7 0 0 (gQ below D cA ad shX (some (.int q)) w args s) 99 [(0, .ref 0), (1, .int x1), (2, .int x2), (3, .int x3), (4, .int x4), (5, .int x5)] [] w := by
  unfold f_X10_soonestCorner_99 at hf
  refine g_iinc C (gdec dt_X10_soonestCorner 53 rfl) (kk := 5) rfl (v := (x5 + (1 : Int32))) rfl (by decide) (lo2 := [(5, .int (x5 + (1 : Int32))), (0, .ref 0), (1, .int x1), (2, .int x2), (3, .int x3), (4, .int x4)]) rfl ?_
  refine g_goto C (tgt := 38) (gdec dt_X10_soonestCorner 54 rfl) (by decide) ?_
  refine g_sub [1, 2, 3, 4, 5, 0] (lo2 := [(0, .ref 0), (1, .int x1), (2, .int x2), (3, .int x3), (4, .int x4), (5, .int (x5 + (1 : Int32)))]) rfl ?_
  exact hk38 x1 x2 x3 x4 (x5 + (1 : Int32)) hf
set_option maxHeartbeats 4000000 in
set_option maxRecDepth 100000 in
theorem L_X10_soonestCorner_92 {p : Program} {l : Launch} {e : Env} {s : State} {m : MethodId} {args : Array Value} {below : List Frame} {meth : Method} {c : Code} {D : va_G} {cA ad : Nat → Nat} {w : GW} {q : Int32} (C : gC p c cX10_soonestCorner meth m s args 7 (some .int) RX10 D cA ad shX) {k38 : Int32 → Int32 → Int32 → Int32 → Int32 → Option Int32} (hk38 : ∀ (x1 : Int32) (x2 : Int32) (x3 : Int32) (x4 : Int32) (x5 : Int32), k38 x1 x2 x3 x4 x5 = some q → gW p l e (gRm 4 192) s m args below meth c D cA ad shX 7 0 0 (gQ below D cA ad shX (some (.int q)) w args s) 38 [(0, .ref 0), (1, .int x1), (2, .int x2), (3, .int x3), (4, .int x4), (5, .int x5)] [] w) (x1 : Int32) (x2 : Int32) (x5 : Int32) (x6 : Int32) (hf : f_X10_soonestCorner_92 k38 w x1 x2 x5 x6 = some q) : gW p l e (gRm 4 192) s m args below meth c D cA ad shX 7 0 0 (gQ below D cA ad shX (some (.int q)) w args s) 92 [(0, .ref 0), (1, .int x1), (2, .int x2), (5, .int x5), (6, .int x6)] [] w := by
  unfold f_X10_soonestCorner_92 at hf
  refine g_iload C (gdec dt_X10_soonestCorner 49 rfl) rfl ?_
  refine g_istore C (gdec dt_X10_soonestCorner 50 rfl) (by decide) (lo2 := [(4, .int x6), (0, .ref 0), (1, .int x1), (2, .int x2), (5, .int x5), (6, .int x6)]) rfl ?_
  refine g_iload C (gdec dt_X10_soonestCorner 51 rfl) rfl ?_
  refine g_istore_n C (gdec dt_X10_soonestCorner 52 rfl) (i := 3) rfl (by decide) (lo2 := [(3, .int x5), (4, .int x6), (0, .ref 0), (1, .int x1), (2, .int x2), (5, .int x5), (6, .int x6)]) rfl ?_
  refine g_sub [2, 3, 4, 0, 1, 5] (lo2 := [(0, .ref 0), (1, .int x1), (2, .int x2), (3, .int x5), (4, .int x6), (5, .int x5)]) rfl ?_
  exact L_X10_soonestCorner_99 C hk38 x1 x2 x5 x6 x5 hf
set_option maxHeartbeats 4000000 in
set_option maxRecDepth 100000 in
theorem Lb_X10_soonestCorner_38 {p : Program} {l : Launch} {e : Env} {s : State} {m : MethodId} {args : Array Value} {below : List Frame} {meth : Method} {c : Code} {D : va_G} {cA ad : Nat → Nat} {w : GW} {q : Int32} (C : gC p c cX10_soonestCorner meth m s args 7 (some .int) RX10 D cA ad shX) {k38 : Int32 → Int32 → Int32 → Int32 → Int32 → Option Int32} (hk38 : ∀ (x1 : Int32) (x2 : Int32) (x3 : Int32) (x4 : Int32) (x5 : Int32), k38 x1 x2 x3 x4 x5 = some q → gW p l e (gRm 4 192) s m args below meth c D cA ad shX 7 0 0 (gQ below D cA ad shX (some (.int q)) w args s) 38 [(0, .ref 0), (1, .int x1), (2, .int x2), (3, .int x3), (4, .int x4), (5, .int x5)] [] w) (x1 : Int32) (x2 : Int32) (x3 : Int32) (x4 : Int32) (x5 : Int32) (hf : b_X10_soonestCorner_38 k38 w x1 x2 x3 x4 x5 = some q) : gW p l e (gRm 4 192) s m args below meth c D cA ad shX 7 0 0 (gQ below D cA ad shX (some (.int q)) w args s) 38 [(0, .ref 0), (1, .int x1), (2, .int x2), (3, .int x3), (4, .int x4), (5, .int x5)] [] w := by
  unfold b_X10_soonestCorner_38 at hf
  refine g_iload C (gdec dt_X10_soonestCorner 23 rfl) rfl ?_
  refine g_aload_n C (gdec dt_X10_soonestCorner 24 rfl) (i := 0) rfl rfl ?_
  refine g_getr C (j := 14) kf_X10_26 rfl rfl (gdec dt_X10_soonestCorner 25 rfl) ?_
  refine g_geti C kf_X10_211 rfl rfl (gdec dt_X10_soonestCorner 26 rfl) ?_
  refine g_icmp_ge C (tgt := 105) (gdec dt_X10_soonestCorner 27 rfl) (by decide) (fun hc4 => ?_) (fun hc4 => ?_)
  · have hf := (if_pos hc4).symm.trans hf
    refine g_iload_n C (gdec dt_X10_soonestCorner 55 rfl) (i := 3) rfl rfl ?_
    cases hf
    exact g_iret C rfl (gdec dt_X10_soonestCorner 56 rfl)
  · have hf := (if_neg hc4).symm.trans hf
    refine g_aload_n C (gdec dt_X10_soonestCorner 28 rfl) (i := 0) rfl rfl ?_
    refine g_getr C (j := 14) kf_X10_26 rfl rfl (gdec dt_X10_soonestCorner 29 rfl) ?_
    refine g_iload C (gdec dt_X10_soonestCorner 30 rfl) rfl ?_
    obtain ⟨q5, hq5, hf⟩ := Option.bind_eq_some_iff.mp hf
    refine g_invVs e_shX_shB_14 [.int x5] [] C (c_X0_sitterIn l D cA _ (gInj_sub em_e_shX_shB_14 (gCi C)) (gsub w e_shX_shB_14) x5 q5 hq5) em_e_shX_shB_14 (by decide) rfl kT_X0_sitterIn kl_X10_249 kim_X0_sitterIn kse_X0_sitterIn rfl rfl (i := 14) rfl rfl ⟨by decide, by decide⟩ gk0 (Nat.le_of_ble_eq_true rfl) (gdec dt_X10_soonestCorner 31 rfl) rfl (st2 := [.int q5]) (w2 := w) rfl (gput_sub _ _) ?_
    refine g_iconst C (gdec dt_X10_soonestCorner 32 rfl) ic_m1 ?_
    refine g_icmp_ne C (tgt := 99) (gdec dt_X10_soonestCorner 33 rfl) (by decide) (fun hc6 => ?_) (fun hc6 => ?_)
    · have hf := (if_neg hc6).symm.trans hf
      refine g_sub [0, 1, 2, 3, 4, 5] (lo2 := [(0, .ref 0), (1, .int x1), (2, .int x2), (3, .int x3), (4, .int x4), (5, .int x5)]) rfl ?_
      exact L_X10_soonestCorner_99 C hk38 x1 x2 x3 x4 x5 hf
    · have hf := (if_pos hc6).symm.trans hf
      refine g_aload_n C (gdec dt_X10_soonestCorner 34 rfl) (i := 0) rfl rfl ?_
      refine g_iload_n C (gdec dt_X10_soonestCorner 35 rfl) (i := 1) rfl rfl ?_
      refine g_iload C (gdec dt_X10_soonestCorner 36 rfl) rfl ?_
      refine g_iload_n C (gdec dt_X10_soonestCorner 37 rfl) (i := 2) rfl rfl ?_
      obtain ⟨q7, hq7, hf⟩ := Option.bind_eq_some_iff.mp hf
      refine g_invV [.int x1, .int x5, .int x2] [] C (c_X10_yearsTill l D cA _ (gCi C) w x1 x5 x2 q7 hq7) kT_X10_yearsTill kl_X10_368 kim_X10_yearsTill kse_X10_yearsTill rfl rfl (i := 0) rfl rfl ⟨by decide, by decide⟩ gk0 (Nat.le_of_ble_eq_true rfl) (gdec dt_X10_soonestCorner 38 rfl) rfl (st2 := [.int q7]) rfl ?_
      refine g_istore C (gdec dt_X10_soonestCorner 39 rfl) (by decide) (lo2 := [(6, .int q7), (0, .ref 0), (1, .int x1), (2, .int x2), (3, .int x3), (4, .int x4), (5, .int x5)]) rfl ?_
      refine g_iload C (gdec dt_X10_soonestCorner 40 rfl) rfl ?_
      refine g_iconst C (gdec dt_X10_soonestCorner 41 rfl) ic_m1 ?_
      refine g_icmp_eq C (tgt := 99) (gdec dt_X10_soonestCorner 42 rfl) (by decide) (fun hc8 => ?_) (fun hc8 => ?_)
      · have hf := (if_pos hc8).symm.trans hf
        refine g_sub [1, 2, 3, 4, 5, 6] (lo2 := [(0, .ref 0), (1, .int x1), (2, .int x2), (3, .int x3), (4, .int x4), (5, .int x5)]) rfl ?_
        exact L_X10_soonestCorner_99 C hk38 x1 x2 x3 x4 x5 hf
      · have hf := (if_neg hc8).symm.trans hf
        refine g_iload C (gdec dt_X10_soonestCorner 43 rfl) rfl ?_
        refine g_iconst C (gdec dt_X10_soonestCorner 44 rfl) ic_m1 ?_
        refine g_icmp_eq C (tgt := 92) (gdec dt_X10_soonestCorner 45 rfl) (by decide) (fun hc9 => ?_) (fun hc9 => ?_)
        · have hf := (if_pos hc9).symm.trans hf
          refine g_sub [1, 2, 3, 6, 0] (lo2 := [(0, .ref 0), (1, .int x1), (2, .int x2), (5, .int x5), (6, .int q7)]) rfl ?_
          exact L_X10_soonestCorner_92 C hk38 x1 x2 x5 q7 hf
        · have hf := (if_neg hc9).symm.trans hf
          refine g_iload C (gdec dt_X10_soonestCorner 46 rfl) rfl ?_
          refine g_iload C (gdec dt_X10_soonestCorner 47 rfl) rfl ?_
          refine g_icmp_ge C (tgt := 99) (gdec dt_X10_soonestCorner 48 rfl) (by decide) (fun hc10 => ?_) (fun hc10 => ?_)
          · have hf := (if_pos hc10).symm.trans hf
            refine g_sub [1, 2, 3, 4, 5, 6] (lo2 := [(0, .ref 0), (1, .int x1), (2, .int x2), (3, .int x3), (4, .int x4), (5, .int x5)]) rfl ?_
            exact L_X10_soonestCorner_99 C hk38 x1 x2 x3 x4 x5 hf
          · have hf := (if_neg hc10).symm.trans hf
            refine g_sub [1, 2, 3, 6, 0] (lo2 := [(0, .ref 0), (1, .int x1), (2, .int x2), (5, .int x5), (6, .int q7)]) rfl ?_
            exact L_X10_soonestCorner_92 C hk38 x1 x2 x5 q7 hf
theorem L_X10_soonestCorner_38 {p : Program} {l : Launch} {e : Env} {s : State} {m : MethodId} {args : Array Value} {below : List Frame} {meth : Method} {c : Code} {D : va_G} {cA ad : Nat → Nat} {w : GW} {q : Int32} (C : gC p c cX10_soonestCorner meth m s args 7 (some .int) RX10 D cA ad shX) : ∀ (n : Nat) (x1 : Int32) (x2 : Int32) (x3 : Int32) (x4 : Int32) (x5 : Int32), f_X10_soonestCorner_38 w n x1 x2 x3 x4 x5 = some q → gW p l e (gRm 4 192) s m args below meth c D cA ad shX 7 0 0 (gQ below D cA ad shX (some (.int q)) w args s) 38 [(0, .ref 0), (1, .int x1), (2, .int x2), (3, .int x3), (4, .int x4), (5, .int x5)] [] w := by
  intro n
  induction n with
  | zero => intro _ _ _ _ _ hf; cases hf
  | succ n ih => intro x1 x2 x3 x4 x5 hf; exact Lb_X10_soonestCorner_38 C ih x1 x2 x3 x4 x5 hf
set_option maxHeartbeats 4000000 in
set_option maxRecDepth 100000 in
theorem L_X10_soonestCorner_35 {p : Program} {l : Launch} {e : Env} {s : State} {m : MethodId} {args : Array Value} {below : List Frame} {meth : Method} {c : Code} {D : va_G} {cA ad : Nat → Nat} {w : GW} {q : Int32} (C : gC p c cX10_soonestCorner meth m s args 7 (some .int) RX10 D cA ad shX) (x1 : Int32) (x2 : Int32) (x3 : Int32) (x4 : Int32) (hf : f_X10_soonestCorner_35 w x1 x2 x3 x4 = some q) : gW p l e (gRm 4 192) s m args below meth c D cA ad shX 7 0 0 (gQ below D cA ad shX (some (.int q)) w args s) 35 [(0, .ref 0), (1, .int x1), (2, .int x2), (3, .int x3), (4, .int x4)] [] w := by
  unfold f_X10_soonestCorner_35 at hf
  refine g_iconst C (gdec dt_X10_soonestCorner 21 rfl) ic_0 ?_
  refine g_istore C (gdec dt_X10_soonestCorner 22 rfl) (by decide) (lo2 := [(5, .int (0 : Int32)), (0, .ref 0), (1, .int x1), (2, .int x2), (3, .int x3), (4, .int x4)]) rfl ?_
  refine g_sub [1, 2, 3, 4, 5, 0] (lo2 := [(0, .ref 0), (1, .int x1), (2, .int x2), (3, .int x3), (4, .int x4), (5, .int (0 : Int32))]) rfl ?_
  exact L_X10_soonestCorner_38 C FU x1 x2 x3 x4 (0 : Int32) hf
set_option maxHeartbeats 4000000 in
set_option maxRecDepth 100000 in
theorem c_X10_soonestCorner (l : Launch) (D : va_G) (cA ad : Nat → Nat) (hin : gInj ad shX.length) (w : GW) (x1 : Int32) (x2 : Int32) (q : Int32) (hf : F_X10_soonestCorner w x1 x2 = some q) : gMet l yX10_soonestCorner cX10_soonestCorner 7 (some .int) 4 192 D cA ad shX [.ref 0, .int x1, .int x2] w (some (.int q)) w := by
  refine g_entry (by decide) hin (Nat.le_of_ble_eq_true rfl) ?_
  intro p e s m args below meth c C
  unfold F_X10_soonestCorner at hf
  show gW p l e (gRm 4 192) s m args below meth c D cA ad shX 7 0 0 (gQ below D cA ad shX (some (.int q)) w args s) 0 [(0, .ref 0), (1, .int x1), (2, .int x2)] [] w
  refine g_iconst C (gdec dt_X10_soonestCorner 0 rfl) ic_m1 ?_
  refine g_istore_n C (gdec dt_X10_soonestCorner 1 rfl) (i := 3) rfl (by decide) (lo2 := [(3, .int (-1 : Int32)), (0, .ref 0), (1, .int x1), (2, .int x2)]) rfl ?_
  refine g_aload_n C (gdec dt_X10_soonestCorner 2 rfl) (i := 0) rfl rfl ?_
  refine g_iload_n C (gdec dt_X10_soonestCorner 3 rfl) (i := 1) rfl rfl ?_
  refine g_aload_n C (gdec dt_X10_soonestCorner 4 rfl) (i := 0) rfl rfl ?_
  refine g_getr C (j := 14) kf_X10_26 rfl rfl (gdec dt_X10_soonestCorner 5 rfl) ?_
  refine g_getr C (j := 19) kf_X10_269 rfl rfl (gdec dt_X10_soonestCorner 6 rfl) ?_
  refine g_iload_n C (gdec dt_X10_soonestCorner 7 rfl) (i := 1) rfl rfl ?_
  obtain ⟨hg1, hf⟩ := gif hf
  refine g_iald C (i := 19) rfl hg1 rfl (gdec dt_X10_soonestCorner 8 rfl) ?_
  refine g_iload_n C (gdec dt_X10_soonestCorner 9 rfl) (i := 2) rfl rfl ?_
  obtain ⟨q2, hq2, hf⟩ := Option.bind_eq_some_iff.mp hf
  refine g_invV [.int x1, .int (w.1 19 x1.toNatClampNeg), .int x2] [] C (c_X10_yearsTill l D cA _ (gCi C) w x1 (w.1 19 x1.toNatClampNeg) x2 q2 hq2) kT_X10_yearsTill kl_X10_368 kim_X10_yearsTill kse_X10_yearsTill rfl rfl (i := 0) rfl rfl ⟨by decide, by decide⟩ gk0 (Nat.le_of_ble_eq_true rfl) (gdec dt_X10_soonestCorner 10 rfl) rfl (st2 := [.int q2]) rfl ?_
  refine g_istore C (gdec dt_X10_soonestCorner 11 rfl) (by decide) (lo2 := [(4, .int q2), (3, .int (-1 : Int32)), (0, .ref 0), (1, .int x1), (2, .int x2)]) rfl ?_
  refine g_iload C (gdec dt_X10_soonestCorner 12 rfl) rfl ?_
  refine g_iconst C (gdec dt_X10_soonestCorner 13 rfl) ic_m1 ?_
  refine g_icmp_eq C (tgt := 35) (gdec dt_X10_soonestCorner 14 rfl) (by decide) (fun hc3 => ?_) (fun hc3 => ?_)
  · have hf := (if_pos hc3).symm.trans hf
    refine g_sub [2, 3, 4, 1, 0] (lo2 := [(0, .ref 0), (1, .int x1), (2, .int x2), (3, .int (-1 : Int32)), (4, .int q2)]) rfl ?_
    exact L_X10_soonestCorner_35 C x1 x2 (-1 : Int32) q2 hf
  · have hf := (if_neg hc3).symm.trans hf
    refine g_aload_n C (gdec dt_X10_soonestCorner 15 rfl) (i := 0) rfl rfl ?_
    refine g_getr C (j := 14) kf_X10_26 rfl rfl (gdec dt_X10_soonestCorner 16 rfl) ?_
    refine g_getr C (j := 19) kf_X10_269 rfl rfl (gdec dt_X10_soonestCorner 17 rfl) ?_
    refine g_iload_n C (gdec dt_X10_soonestCorner 18 rfl) (i := 1) rfl rfl ?_
    refine g_iald C (i := 19) rfl hg1 rfl (gdec dt_X10_soonestCorner 19 rfl) ?_
    refine g_istore_n C (gdec dt_X10_soonestCorner 20 rfl) (i := 3) rfl (by decide) (lo2 := [(3, .int (w.1 19 x1.toNatClampNeg)), (4, .int q2), (0, .ref 0), (1, .int x1), (2, .int x2)]) rfl ?_
    refine g_sub [2, 3, 4, 0, 1] (lo2 := [(0, .ref 0), (1, .int x1), (2, .int x2), (3, .int (w.1 19 x1.toNatClampNeg)), (4, .int q2)]) rfl ?_
    exact L_X10_soonestCorner_35 C x1 x2 (w.1 19 x1.toNatClampNeg) q2 hf
set_option maxHeartbeats 4000000 in
set_option maxRecDepth 100000 in
theorem L_X10_soon_22 {p : Program} {l : Launch} {e : Env} {s : State} {m : MethodId} {args : Array Value} {below : List Frame} {meth : Method} {c : Code} {D : va_G} {cA ad : Nat → Nat} {q : (Int32 × GW)} (C : gC p c cX10_soon meth m s args 3 (some .int) RX10 D cA ad shX) (w : GW) (hf : f_X10_soon_22 w = some q) : gW p l e (gRm 5 218) s m args below meth c D cA ad shX 3 0 0 (gQ below D cA ad shX (some (.int q.1)) q.2 args s) 22 [(0, .ref 0)] [] w := by
  unfold f_X10_soon_22 at hf
  refine g_aload_n C (gdec dt_X10_soon 10 rfl) (i := 0) rfl rfl ?_
  refine g_iconst C (gdec dt_X10_soon 11 rfl) ic_1 ?_
  obtain ⟨q8, hq8, hf⟩ := Option.bind_eq_some_iff.mp hf
  refine g_invV [.int (1 : Int32)] [] C (c_X10_refuse l D cA _ (gCi C) w (1 : Int32) q8 hq8) kT_X10_refuse kl_X10_110 kim_X10_refuse kse_X10_refuse rfl rfl (i := 0) rfl rfl ⟨by decide, by decide⟩ gk0 (Nat.le_of_ble_eq_true rfl) (gdec dt_X10_soon 12 rfl) rfl (st2 := [.int q8.1]) rfl ?_
  cases hf
  exact g_iret C rfl (gdec dt_X10_soon 13 rfl)
set_option maxHeartbeats 4000000 in
set_option maxRecDepth 100000 in
theorem c_X10_soon (l : Launch) (D : va_G) (cA ad : Nat → Nat) (hin : gInj ad shX.length) (w : GW) (x1 : Int32) (x2 : Int32) (q : (Int32 × GW)) (hf : F_X10_soon x1 x2 w = some q) : gMet l yX10_soon cX10_soon 3 (some .int) 5 218 D cA ad shX [.ref 0, .int x1, .int x2] w (some (.int q.1)) q.2 := by
  refine g_entry (by decide) hin (Nat.le_of_ble_eq_true rfl) ?_
  intro p e s m args below meth c C
  unfold F_X10_soon at hf
  show gW p l e (gRm 5 218) s m args below meth c D cA ad shX 3 0 0 (gQ below D cA ad shX (some (.int q.1)) q.2 args s) 0 [(0, .ref 0), (1, .int x1), (2, .int x2)] [] w
  refine g_aload_n C (gdec dt_X10_soon 0 rfl) (i := 0) rfl rfl ?_
  refine g_getr C (j := 14) kf_X10_26 rfl rfl (gdec dt_X10_soon 1 rfl) ?_
  refine g_iload_n C (gdec dt_X10_soon 2 rfl) (i := 1) rfl rfl ?_
  obtain ⟨q1, hq1, hf⟩ := Option.bind_eq_some_iff.mp hf
  refine g_invVs e_shX_shB_14 [.int x1] [] C (c_X0_hasClerk l D cA _ (gInj_sub em_e_shX_shB_14 (gCi C)) (gsub w e_shX_shB_14) x1 q1 hq1) em_e_shX_shB_14 (by decide) rfl kT_X0_hasClerk kl_X10_266 kim_X0_hasClerk kse_X0_hasClerk rfl rfl (i := 14) rfl rfl ⟨by decide, by decide⟩ gk0 (Nat.le_of_ble_eq_true rfl) (gdec dt_X10_soon 3 rfl) rfl (st2 := [.int q1]) (w2 := w) rfl (gput_sub _ _) ?_
  refine g_if_eq C (tgt := 22) (gdec dt_X10_soon 4 rfl) (by decide) (fun hc2 => ?_) (fun hc2 => ?_)
  · have hf := (if_pos hc2).symm.trans hf
    refine g_sub [0] (lo2 := [(0, .ref 0)]) rfl ?_
    exact L_X10_soon_22 C w hf
  · have hf := (if_neg hc2).symm.trans hf
    refine g_aload_n C (gdec dt_X10_soon 5 rfl) (i := 0) rfl rfl ?_
    refine g_getr C (j := 14) kf_X10_26 rfl rfl (gdec dt_X10_soon 6 rfl) ?_
    refine g_iload_n C (gdec dt_X10_soon 7 rfl) (i := 2) rfl rfl ?_
    obtain ⟨q3, hq3, hf⟩ := Option.bind_eq_some_iff.mp hf
    refine g_invVs e_shX_shB_14 [.int x2] [] C (c_X0_hasRank l D cA _ (gInj_sub em_e_shX_shB_14 (gCi C)) (gsub w e_shX_shB_14) x2 q3 hq3) em_e_shX_shB_14 (by decide) rfl kT_X0_hasRank kl_X10_255 kim_X0_hasRank kse_X0_hasRank rfl rfl (i := 14) rfl rfl ⟨by decide, by decide⟩ gk0 (Nat.le_of_ble_eq_true rfl) (gdec dt_X10_soon 8 rfl) rfl (st2 := [.int q3]) (w2 := w) rfl (gput_sub _ _) ?_
    refine g_if_ne C (tgt := 28) (gdec dt_X10_soon 9 rfl) (by decide) (fun hc4 => ?_) (fun hc4 => ?_)
    · have hf := (if_neg hc4).symm.trans hf
      refine g_aload_n C (gdec dt_X10_soon 14 rfl) (i := 0) rfl rfl ?_
      refine g_aload_n C (gdec dt_X10_soon 15 rfl) (i := 0) rfl rfl ?_
      refine g_iload_n C (gdec dt_X10_soon 16 rfl) (i := 1) rfl rfl ?_
      refine g_aload_n C (gdec dt_X10_soon 17 rfl) (i := 0) rfl rfl ?_
      refine g_iload_n C (gdec dt_X10_soon 18 rfl) (i := 1) rfl rfl ?_
      refine g_iload_n C (gdec dt_X10_soon 19 rfl) (i := 2) rfl rfl ?_
      obtain ⟨q5, hq5, hf⟩ := Option.bind_eq_some_iff.mp hf
      refine g_invV [.int x1, .int x2] [.int x1, .ref 0, .ref 0] C (c_X10_soonestCorner l D cA _ (gCi C) w x1 x2 q5 hq5) kT_X10_soonestCorner kl_X10_365 kim_X10_soonestCorner kse_X10_soonestCorner rfl rfl (i := 0) rfl rfl ⟨by decide, by decide⟩ gk0 (Nat.le_of_ble_eq_true rfl) (gdec dt_X10_soon 20 rfl) rfl (st2 := [.int q5, .int x1, .ref 0, .ref 0]) rfl ?_
      refine g_iload_n C (gdec dt_X10_soon 21 rfl) (i := 2) rfl rfl ?_
      obtain ⟨q6, hq6, hf⟩ := Option.bind_eq_some_iff.mp hf
      refine g_invV [.int x1, .int q5, .int x2] [.ref 0] C (c_X10_yearsTill l D cA _ (gCi C) w x1 q5 x2 q6 hq6) kT_X10_yearsTill kl_X10_368 kim_X10_yearsTill kse_X10_yearsTill rfl rfl (i := 0) rfl rfl ⟨by decide, by decide⟩ gk0 (Nat.le_of_ble_eq_true rfl) (gdec dt_X10_soon 22 rfl) rfl (st2 := [.int q6, .ref 0]) rfl ?_
      refine g_bipush C (gdec dt_X10_soon 23 rfl) bc_6 ?_
      obtain ⟨q7, hq7, hf⟩ := Option.bind_eq_some_iff.mp hf
      refine g_invV [.int q6, .int (6 : Int32)] [] C (c_X10_answerOrRefuse l D cA _ (gCi C) w q6 (6 : Int32) q7 hq7) kT_X10_answerOrRefuse kl_X10_252 kim_X10_answerOrRefuse kse_X10_answerOrRefuse rfl rfl (i := 0) rfl rfl ⟨by decide, by decide⟩ gk0 (Nat.le_of_ble_eq_true rfl) (gdec dt_X10_soon 24 rfl) rfl (st2 := [.int q7.1]) rfl ?_
      cases hf
      exact g_iret C rfl (gdec dt_X10_soon 25 rfl)
    · have hf := (if_pos hc4).symm.trans hf
      refine g_sub [0] (lo2 := [(0, .ref 0)]) rfl ?_
      exact L_X10_soon_22 C w hf
set_option maxHeartbeats 4000000 in
set_option maxRecDepth 100000 in
theorem L_X10_soonAt_22 {p : Program} {l : Launch} {e : Env} {s : State} {m : MethodId} {args : Array Value} {below : List Frame} {meth : Method} {c : Code} {D : va_G} {cA ad : Nat → Nat} {q : (Int32 × GW)} (C : gC p c cX10_soonAt meth m s args 3 (some .int) RX10 D cA ad shX) (w : GW) (hf : f_X10_soonAt_22 w = some q) : gW p l e (gRm 5 218) s m args below meth c D cA ad shX 3 0 0 (gQ below D cA ad shX (some (.int q.1)) q.2 args s) 22 [(0, .ref 0)] [] w := by
  unfold f_X10_soonAt_22 at hf
  refine g_aload_n C (gdec dt_X10_soonAt 10 rfl) (i := 0) rfl rfl ?_
  refine g_iconst C (gdec dt_X10_soonAt 11 rfl) ic_1 ?_
  obtain ⟨q7, hq7, hf⟩ := Option.bind_eq_some_iff.mp hf
  refine g_invV [.int (1 : Int32)] [] C (c_X10_refuse l D cA _ (gCi C) w (1 : Int32) q7 hq7) kT_X10_refuse kl_X10_110 kim_X10_refuse kse_X10_refuse rfl rfl (i := 0) rfl rfl ⟨by decide, by decide⟩ gk0 (Nat.le_of_ble_eq_true rfl) (gdec dt_X10_soonAt 12 rfl) rfl (st2 := [.int q7.1]) rfl ?_
  cases hf
  exact g_iret C rfl (gdec dt_X10_soonAt 13 rfl)
set_option maxHeartbeats 4000000 in
set_option maxRecDepth 100000 in
theorem c_X10_soonAt (l : Launch) (D : va_G) (cA ad : Nat → Nat) (hin : gInj ad shX.length) (w : GW) (x1 : Int32) (x2 : Int32) (q : (Int32 × GW)) (hf : F_X10_soonAt x1 x2 w = some q) : gMet l yX10_soonAt cX10_soonAt 3 (some .int) 5 218 D cA ad shX [.ref 0, .int x1, .int x2] w (some (.int q.1)) q.2 := by
  refine g_entry (by decide) hin (Nat.le_of_ble_eq_true rfl) ?_
  intro p e s m args below meth c C
  unfold F_X10_soonAt at hf
  show gW p l e (gRm 5 218) s m args below meth c D cA ad shX 3 0 0 (gQ below D cA ad shX (some (.int q.1)) q.2 args s) 0 [(0, .ref 0), (1, .int x1), (2, .int x2)] [] w
  refine g_aload_n C (gdec dt_X10_soonAt 0 rfl) (i := 0) rfl rfl ?_
  refine g_getr C (j := 14) kf_X10_26 rfl rfl (gdec dt_X10_soonAt 1 rfl) ?_
  refine g_iload_n C (gdec dt_X10_soonAt 2 rfl) (i := 1) rfl rfl ?_
  obtain ⟨q1, hq1, hf⟩ := Option.bind_eq_some_iff.mp hf
  refine g_invVs e_shX_shB_14 [.int x1] [] C (c_X0_hasClerk l D cA _ (gInj_sub em_e_shX_shB_14 (gCi C)) (gsub w e_shX_shB_14) x1 q1 hq1) em_e_shX_shB_14 (by decide) rfl kT_X0_hasClerk kl_X10_266 kim_X0_hasClerk kse_X0_hasClerk rfl rfl (i := 14) rfl rfl ⟨by decide, by decide⟩ gk0 (Nat.le_of_ble_eq_true rfl) (gdec dt_X10_soonAt 3 rfl) rfl (st2 := [.int q1]) (w2 := w) rfl (gput_sub _ _) ?_
  refine g_if_eq C (tgt := 22) (gdec dt_X10_soonAt 4 rfl) (by decide) (fun hc2 => ?_) (fun hc2 => ?_)
  · have hf := (if_pos hc2).symm.trans hf
    refine g_sub [0] (lo2 := [(0, .ref 0)]) rfl ?_
    exact L_X10_soonAt_22 C w hf
  · have hf := (if_neg hc2).symm.trans hf
    refine g_aload_n C (gdec dt_X10_soonAt 5 rfl) (i := 0) rfl rfl ?_
    refine g_getr C (j := 14) kf_X10_26 rfl rfl (gdec dt_X10_soonAt 6 rfl) ?_
    refine g_iload_n C (gdec dt_X10_soonAt 7 rfl) (i := 2) rfl rfl ?_
    obtain ⟨q3, hq3, hf⟩ := Option.bind_eq_some_iff.mp hf
    refine g_invVs e_shX_shB_14 [.int x2] [] C (c_X0_hasRank l D cA _ (gInj_sub em_e_shX_shB_14 (gCi C)) (gsub w e_shX_shB_14) x2 q3 hq3) em_e_shX_shB_14 (by decide) rfl kT_X0_hasRank kl_X10_255 kim_X0_hasRank kse_X0_hasRank rfl rfl (i := 14) rfl rfl ⟨by decide, by decide⟩ gk0 (Nat.le_of_ble_eq_true rfl) (gdec dt_X10_soonAt 8 rfl) rfl (st2 := [.int q3]) (w2 := w) rfl (gput_sub _ _) ?_
    refine g_if_ne C (tgt := 28) (gdec dt_X10_soonAt 9 rfl) (by decide) (fun hc4 => ?_) (fun hc4 => ?_)
    · have hf := (if_neg hc4).symm.trans hf
      refine g_aload_n C (gdec dt_X10_soonAt 14 rfl) (i := 0) rfl rfl ?_
      refine g_aload_n C (gdec dt_X10_soonAt 15 rfl) (i := 0) rfl rfl ?_
      refine g_iload_n C (gdec dt_X10_soonAt 16 rfl) (i := 1) rfl rfl ?_
      refine g_iload_n C (gdec dt_X10_soonAt 17 rfl) (i := 2) rfl rfl ?_
      obtain ⟨q5, hq5, hf⟩ := Option.bind_eq_some_iff.mp hf
      refine g_invV [.int x1, .int x2] [.ref 0] C (c_X10_soonestCorner l D cA _ (gCi C) w x1 x2 q5 hq5) kT_X10_soonestCorner kl_X10_365 kim_X10_soonestCorner kse_X10_soonestCorner rfl rfl (i := 0) rfl rfl ⟨by decide, by decide⟩ gk0 (Nat.le_of_ble_eq_true rfl) (gdec dt_X10_soonAt 18 rfl) rfl (st2 := [.int q5, .ref 0]) rfl ?_
      refine g_bipush C (gdec dt_X10_soonAt 19 rfl) bc_6 ?_
      obtain ⟨q6, hq6, hf⟩ := Option.bind_eq_some_iff.mp hf
      refine g_invV [.int q5, .int (6 : Int32)] [] C (c_X10_answerOrRefuse l D cA _ (gCi C) w q5 (6 : Int32) q6 hq6) kT_X10_answerOrRefuse kl_X10_252 kim_X10_answerOrRefuse kse_X10_answerOrRefuse rfl rfl (i := 0) rfl rfl ⟨by decide, by decide⟩ gk0 (Nat.le_of_ble_eq_true rfl) (gdec dt_X10_soonAt 20 rfl) rfl (st2 := [.int q6.1]) rfl ?_
      cases hf
      exact g_iret C rfl (gdec dt_X10_soonAt 21 rfl)
    · have hf := (if_pos hc4).symm.trans hf
      refine g_sub [0] (lo2 := [(0, .ref 0)]) rfl ?_
      exact L_X10_soonAt_22 C w hf
set_option maxHeartbeats 4000000 in
set_option maxRecDepth 100000 in
theorem Lb_X10_payOver_6 {p : Program} {l : Launch} {e : Env} {s : State} {m : MethodId} {args : Array Value} {below : List Frame} {meth : Method} {c : Code} {D : va_G} {cA ad : Nat → Nat} {w : GW} {q : Int32} (C : gC p c cX10_payOver meth m s args 6 (some .int) RX10 D cA ad shX) {k6 : Int32 → Int32 → Int32 → Int32 → Int32 → Option Int32} (hk6 : ∀ (x1 : Int32) (x2 : Int32) (x3 : Int32) (x4 : Int32) (x5 : Int32), k6 x1 x2 x3 x4 x5 = some q → gW p l e (gRm 3 165) s m args below meth c D cA ad shX 6 0 0 (gQ below D cA ad shX (some (.int q)) w args s) 6 [(0, .ref 0), (1, .int x1), (2, .int x2), (3, .int x3), (4, .int x4), (5, .int x5)] [] w) (x1 : Int32) (x2 : Int32) (x3 : Int32) (x4 : Int32) (x5 : Int32) (hf : b_X10_payOver_6 k6 w x1 x2 x3 x4 x5 = some q) : gW p l e (gRm 3 165) s m args below meth c D cA ad shX 6 0 0 (gQ below D cA ad shX (some (.int q)) w args s) 6 [(0, .ref 0), (1, .int x1), (2, .int x2), (3, .int x3), (4, .int x4), (5, .int x5)] [] w := by
  unfold b_X10_payOver_6 at hf
  refine g_iload C (gdec dt_X10_payOver 4 rfl) rfl ?_
  refine g_iload_n C (gdec dt_X10_payOver 5 rfl) (i := 3) rfl rfl ?_
  refine g_icmp_ge C (tgt := 44) (gdec dt_X10_payOver 6 rfl) (by decide) (fun hc1 => ?_) (fun hc1 => ?_)
  · have hf := (if_pos hc1).symm.trans hf
    refine g_iload C (gdec dt_X10_payOver 22 rfl) rfl ?_
    cases hf
    exact g_iret C rfl (gdec dt_X10_payOver 23 rfl)
  · have hf := (if_neg hc1).symm.trans hf
    refine g_iload C (gdec dt_X10_payOver 7 rfl) rfl ?_
    refine g_aload_n C (gdec dt_X10_payOver 8 rfl) (i := 0) rfl rfl ?_
    refine g_getr C (j := 14) kf_X10_26 rfl rfl (gdec dt_X10_payOver 9 rfl) ?_
    refine g_aload_n C (gdec dt_X10_payOver 10 rfl) (i := 0) rfl rfl ?_
    refine g_getr C (j := 14) kf_X10_26 rfl rfl (gdec dt_X10_payOver 11 rfl) ?_
    refine g_iload_n C (gdec dt_X10_payOver 12 rfl) (i := 1) rfl rfl ?_
    refine g_iload C (gdec dt_X10_payOver 13 rfl) rfl ?_
    obtain ⟨q2, hq2, hf⟩ := Option.bind_eq_some_iff.mp hf
    refine g_invVs e_shX_shB_14 [.int x1, .int x5] [.ref 14, .int x4] C (c_X0_greyStaying l D cA _ (gInj_sub em_e_shX_shB_14 (gCi C)) (gsub w e_shX_shB_14) x1 x5 q2 hq2) em_e_shX_shB_14 (by decide) rfl kT_X0_greyStaying kl_X10_341 kim_X0_greyStaying kse_X0_greyStaying rfl rfl (i := 14) rfl rfl ⟨by decide, by decide⟩ gk0 (Nat.le_of_ble_eq_true rfl) (gdec dt_X10_payOver 14 rfl) rfl (st2 := [.int q2, .ref 14, .int x4]) (w2 := w) rfl (gput_sub _ _) ?_
    refine g_iload_n C (gdec dt_X10_payOver 15 rfl) (i := 2) rfl rfl ?_
    obtain ⟨q3, hq3, hf⟩ := Option.bind_eq_some_iff.mp hf
    refine g_invSs e_nil [.int q2, .int x2] [.ref 14, .int x4] C (c_X10_looksBy l D cA _ (gInj_sub em_e_nil_shX (gCi C)) (gsub w e_nil) q2 x2 q3 hq3) em_e_nil_shX (by decide) rfl kT_X10_looksBy kl_X10_344 kst_X10_looksBy rfl rfl ⟨by decide, by decide⟩ gk0 (Nat.le_of_ble_eq_true rfl) (gdec dt_X10_payOver 16 rfl) rfl (st2 := [.int q3, .ref 14, .int x4]) (w2 := w) rfl (gput_sub _ _) ?_
    obtain ⟨q4, hq4, hf⟩ := Option.bind_eq_some_iff.mp hf
    refine g_invVs e_shX_shB_14 [.int q3] [.int x4] C (c_X0_payBy l D cA _ (gInj_sub em_e_shX_shB_14 (gCi C)) (gsub w e_shX_shB_14) q3 q4 hq4) em_e_shX_shB_14 (by decide) rfl kT_X0_payBy kl_X10_374 kim_X0_payBy kse_X0_payBy rfl rfl (i := 14) rfl rfl ⟨by decide, by decide⟩ gk0 (Nat.le_of_ble_eq_true rfl) (gdec dt_X10_payOver 17 rfl) rfl (st2 := [.int q4, .int x4]) (w2 := w) rfl (gput_sub _ _) ?_
    refine g_iadd C (gdec dt_X10_payOver 18 rfl) ?_
    refine g_istore C (gdec dt_X10_payOver 19 rfl) (by decide) (lo2 := [(4, .int (x4 + q4)), (0, .ref 0), (1, .int x1), (2, .int x2), (3, .int x3), (5, .int x5)]) rfl ?_
    refine g_iinc C (gdec dt_X10_payOver 20 rfl) (kk := 5) rfl (v := (x5 + (1 : Int32))) rfl (by decide) (lo2 := [(5, .int (x5 + (1 : Int32))), (4, .int (x4 + q4)), (0, .ref 0), (1, .int x1), (2, .int x2), (3, .int x3)]) rfl ?_
    refine g_goto C (tgt := 6) (gdec dt_X10_payOver 21 rfl) (by decide) ?_
    refine g_sub [2, 3, 4, 5, 1, 0] (lo2 := [(0, .ref 0), (1, .int x1), (2, .int x2), (3, .int x3), (4, .int (x4 + q4)), (5, .int (x5 + (1 : Int32)))]) rfl ?_
    exact hk6 x1 x2 x3 (x4 + q4) (x5 + (1 : Int32)) hf
theorem L_X10_payOver_6 {p : Program} {l : Launch} {e : Env} {s : State} {m : MethodId} {args : Array Value} {below : List Frame} {meth : Method} {c : Code} {D : va_G} {cA ad : Nat → Nat} {w : GW} {q : Int32} (C : gC p c cX10_payOver meth m s args 6 (some .int) RX10 D cA ad shX) : ∀ (n : Nat) (x1 : Int32) (x2 : Int32) (x3 : Int32) (x4 : Int32) (x5 : Int32), f_X10_payOver_6 w n x1 x2 x3 x4 x5 = some q → gW p l e (gRm 3 165) s m args below meth c D cA ad shX 6 0 0 (gQ below D cA ad shX (some (.int q)) w args s) 6 [(0, .ref 0), (1, .int x1), (2, .int x2), (3, .int x3), (4, .int x4), (5, .int x5)] [] w := by
  intro n
  induction n with
  | zero => intro _ _ _ _ _ hf; cases hf
  | succ n ih => intro x1 x2 x3 x4 x5 hf; exact Lb_X10_payOver_6 C ih x1 x2 x3 x4 x5 hf
set_option maxHeartbeats 4000000 in
set_option maxRecDepth 100000 in
theorem c_X10_payOver (l : Launch) (D : va_G) (cA ad : Nat → Nat) (hin : gInj ad shX.length) (w : GW) (x1 : Int32) (x2 : Int32) (x3 : Int32) (q : Int32) (hf : F_X10_payOver w x1 x2 x3 = some q) : gMet l yX10_payOver cX10_payOver 6 (some .int) 3 165 D cA ad shX [.ref 0, .int x1, .int x2, .int x3] w (some (.int q)) w := by
  refine g_entry (by decide) hin (Nat.le_of_ble_eq_true rfl) ?_
  intro p e s m args below meth c C
  unfold F_X10_payOver at hf
  show gW p l e (gRm 3 165) s m args below meth c D cA ad shX 6 0 0 (gQ below D cA ad shX (some (.int q)) w args s) 0 [(0, .ref 0), (1, .int x1), (2, .int x2), (3, .int x3)] [] w
  refine g_iconst C (gdec dt_X10_payOver 0 rfl) ic_0 ?_
  refine g_istore C (gdec dt_X10_payOver 1 rfl) (by decide) (lo2 := [(4, .int (0 : Int32)), (0, .ref 0), (1, .int x1), (2, .int x2), (3, .int x3)]) rfl ?_
  refine g_iconst C (gdec dt_X10_payOver 2 rfl) ic_0 ?_
  refine g_istore C (gdec dt_X10_payOver 3 rfl) (by decide) (lo2 := [(5, .int (0 : Int32)), (4, .int (0 : Int32)), (0, .ref 0), (1, .int x1), (2, .int x2), (3, .int x3)]) rfl ?_
  refine g_sub [2, 3, 4, 5, 1, 0] (lo2 := [(0, .ref 0), (1, .int x1), (2, .int x2), (3, .int x3), (4, .int (0 : Int32)), (5, .int (0 : Int32))]) rfl ?_
  exact L_X10_payOver_6 C FU x1 x2 x3 (0 : Int32) (0 : Int32) hf
set_option maxHeartbeats 4000000 in
set_option maxRecDepth 100000 in
theorem L_X10_worth_29 {p : Program} {l : Launch} {e : Env} {s : State} {m : MethodId} {args : Array Value} {below : List Frame} {meth : Method} {c : Code} {D : va_G} {cA ad : Nat → Nat} {q : (Int32 × GW)} (C : gC p c cX10_worth meth m s args 6 (some .int) RX10 D cA ad shX) (w : GW) (hf : f_X10_worth_29 w = some q) : gW p l e (gRm 4 190) s m args below meth c D cA ad shX 6 0 0 (gQ below D cA ad shX (some (.int q.1)) q.2 args s) 29 [(0, .ref 0)] [] w := by
  unfold f_X10_worth_29 at hf
  refine g_aload_n C (gdec dt_X10_worth 14 rfl) (i := 0) rfl rfl ?_
  refine g_iconst C (gdec dt_X10_worth 15 rfl) ic_1 ?_
  obtain ⟨q11, hq11, hf⟩ := Option.bind_eq_some_iff.mp hf
  refine g_invV [.int (1 : Int32)] [] C (c_X10_refuse l D cA _ (gCi C) w (1 : Int32) q11 hq11) kT_X10_refuse kl_X10_110 kim_X10_refuse kse_X10_refuse rfl rfl (i := 0) rfl rfl ⟨by decide, by decide⟩ gk0 (Nat.le_of_ble_eq_true rfl) (gdec dt_X10_worth 16 rfl) rfl (st2 := [.int q11.1]) rfl ?_
  cases hf
  exact g_iret C rfl (gdec dt_X10_worth 17 rfl)
set_option maxHeartbeats 4000000 in
set_option maxRecDepth 100000 in
theorem c_X10_worth (l : Launch) (D : va_G) (cA ad : Nat → Nat) (hin : gInj ad shX.length) (w : GW) (x1 : Int32) (x2 : Int32) (x3 : Int32) (q : (Int32 × GW)) (hf : F_X10_worth x1 x2 x3 w = some q) : gMet l yX10_worth cX10_worth 6 (some .int) 4 190 D cA ad shX [.ref 0, .int x1, .int x2, .int x3] w (some (.int q.1)) q.2 := by
  refine g_entry (by decide) hin (Nat.le_of_ble_eq_true rfl) ?_
  intro p e s m args below meth c C
  unfold F_X10_worth at hf
  show gW p l e (gRm 4 190) s m args below meth c D cA ad shX 6 0 0 (gQ below D cA ad shX (some (.int q.1)) q.2 args s) 0 [(0, .ref 0), (1, .int x1), (2, .int x2), (3, .int x3)] [] w
  refine g_aload_n C (gdec dt_X10_worth 0 rfl) (i := 0) rfl rfl ?_
  refine g_getr C (j := 14) kf_X10_26 rfl rfl (gdec dt_X10_worth 1 rfl) ?_
  refine g_iload_n C (gdec dt_X10_worth 2 rfl) (i := 1) rfl rfl ?_
  obtain ⟨q1, hq1, hf⟩ := Option.bind_eq_some_iff.mp hf
  refine g_invVs e_shX_shB_14 [.int x1] [] C (c_X0_hasClerk l D cA _ (gInj_sub em_e_shX_shB_14 (gCi C)) (gsub w e_shX_shB_14) x1 q1 hq1) em_e_shX_shB_14 (by decide) rfl kT_X0_hasClerk kl_X10_266 kim_X0_hasClerk kse_X0_hasClerk rfl rfl (i := 14) rfl rfl ⟨by decide, by decide⟩ gk0 (Nat.le_of_ble_eq_true rfl) (gdec dt_X10_worth 3 rfl) rfl (st2 := [.int q1]) (w2 := w) rfl (gput_sub _ _) ?_
  refine g_if_eq C (tgt := 29) (gdec dt_X10_worth 4 rfl) (by decide) (fun hc2 => ?_) (fun hc2 => ?_)
  · have hf := (if_pos hc2).symm.trans hf
    refine g_sub [0] (lo2 := [(0, .ref 0)]) rfl ?_
    exact L_X10_worth_29 C w hf
  · have hf := (if_neg hc2).symm.trans hf
    refine g_iload_n C (gdec dt_X10_worth 5 rfl) (i := 2) rfl rfl ?_
    refine g_iconst C (gdec dt_X10_worth 6 rfl) ic_0 ?_
    refine g_bipush C (gdec dt_X10_worth 7 rfl) bc_99 ?_
    obtain ⟨q3, hq3, hf⟩ := Option.bind_eq_some_iff.mp hf
    refine g_invSs e_nil [.int x2, .int (0 : Int32), .int (99 : Int32)] [] C (c_X10_between l D cA _ (gInj_sub em_e_nil_shX (gCi C)) (gsub w e_nil) x2 (0 : Int32) (99 : Int32) q3 hq3) em_e_nil_shX (by decide) rfl kT_X10_between kl_X10_126 kst_X10_between rfl rfl ⟨by decide, by decide⟩ gk0 (Nat.le_of_ble_eq_true rfl) (gdec dt_X10_worth 8 rfl) rfl (st2 := [.int q3]) (w2 := w) rfl (gput_sub _ _) ?_
    refine g_if_eq C (tgt := 29) (gdec dt_X10_worth 9 rfl) (by decide) (fun hc4 => ?_) (fun hc4 => ?_)
    · have hf := (if_pos hc4).symm.trans hf
      refine g_sub [0] (lo2 := [(0, .ref 0)]) rfl ?_
      exact L_X10_worth_29 C w hf
    · have hf := (if_neg hc4).symm.trans hf
      refine g_aload_n C (gdec dt_X10_worth 10 rfl) (i := 0) rfl rfl ?_
      refine g_iload_n C (gdec dt_X10_worth 11 rfl) (i := 3) rfl rfl ?_
      obtain ⟨q5, hq5, hf⟩ := Option.bind_eq_some_iff.mp hf
      refine g_invV [.int x3] [] C (c_X10_isYears l D cA _ (gCi C) w x3 q5 hq5) kT_X10_isYears kl_X10_338 kim_X10_isYears kse_X10_isYears rfl rfl (i := 0) rfl rfl ⟨by decide, by decide⟩ gk0 (Nat.le_of_ble_eq_true rfl) (gdec dt_X10_worth 12 rfl) rfl (st2 := [.int q5]) rfl ?_
      refine g_if_ne C (tgt := 35) (gdec dt_X10_worth 13 rfl) (by decide) (fun hc6 => ?_) (fun hc6 => ?_)
      · have hf := (if_neg hc6).symm.trans hf
        refine g_aload_n C (gdec dt_X10_worth 18 rfl) (i := 0) rfl rfl ?_
        refine g_getr C (j := 14) kf_X10_26 rfl rfl (gdec dt_X10_worth 19 rfl) ?_
        refine g_getr C (j := 22) kf_X10_278 rfl rfl (gdec dt_X10_worth 20 rfl) ?_
        refine g_iload_n C (gdec dt_X10_worth 21 rfl) (i := 1) rfl rfl ?_
        obtain ⟨hg7, hf⟩ := gif hf
        refine g_iald C (i := 22) rfl hg7 rfl (gdec dt_X10_worth 22 rfl) ?_
        refine g_istore C (gdec dt_X10_worth 23 rfl) (by decide) (lo2 := [(4, .int (w.1 22 x1.toNatClampNeg)), (0, .ref 0), (1, .int x1), (2, .int x2), (3, .int x3)]) rfl ?_
        refine g_bipush C (gdec dt_X10_worth 24 rfl) bc_99 ?_
        refine g_iload C (gdec dt_X10_worth 25 rfl) rfl ?_
        refine g_iload_n C (gdec dt_X10_worth 26 rfl) (i := 2) rfl rfl ?_
        refine g_iadd C (gdec dt_X10_worth 27 rfl) ?_
        refine g_mmin C (gdec dt_X10_worth 28 rfl) kl_X10_330 kst_min ki_Math kc_Mmin (Nat.le_of_ble_eq_true rfl) ⟨by decide, by decide⟩ gk0 ?_
        refine g_istore C (gdec dt_X10_worth 29 rfl) (by decide) (lo2 := [(5, .int (imin (99 : Int32) ((w.1 22 x1.toNatClampNeg) + x2))), (4, .int (w.1 22 x1.toNatClampNeg)), (0, .ref 0), (1, .int x1), (2, .int x2), (3, .int x3)]) rfl ?_
        refine g_aload_n C (gdec dt_X10_worth 30 rfl) (i := 0) rfl rfl ?_
        refine g_aload_n C (gdec dt_X10_worth 31 rfl) (i := 0) rfl rfl ?_
        refine g_iload_n C (gdec dt_X10_worth 32 rfl) (i := 1) rfl rfl ?_
        refine g_iload C (gdec dt_X10_worth 33 rfl) rfl ?_
        refine g_iload_n C (gdec dt_X10_worth 34 rfl) (i := 3) rfl rfl ?_
        obtain ⟨q8, hq8, hf⟩ := Option.bind_eq_some_iff.mp hf
        refine g_invV [.int x1, .int (imin (99 : Int32) ((w.1 22 x1.toNatClampNeg) + x2)), .int x3] [.ref 0] C (c_X10_payOver l D cA _ (gCi C) w x1 (imin (99 : Int32) ((w.1 22 x1.toNatClampNeg) + x2)) x3 q8 hq8) kT_X10_payOver kl_X10_371 kim_X10_payOver kse_X10_payOver rfl rfl (i := 0) rfl rfl ⟨by decide, by decide⟩ gk0 (Nat.le_of_ble_eq_true rfl) (gdec dt_X10_worth 35 rfl) rfl (st2 := [.int q8, .ref 0]) rfl ?_
        refine g_aload_n C (gdec dt_X10_worth 36 rfl) (i := 0) rfl rfl ?_
        refine g_iload_n C (gdec dt_X10_worth 37 rfl) (i := 1) rfl rfl ?_
        refine g_iload C (gdec dt_X10_worth 38 rfl) rfl ?_
        refine g_iload_n C (gdec dt_X10_worth 39 rfl) (i := 3) rfl rfl ?_
        obtain ⟨q9, hq9, hf⟩ := Option.bind_eq_some_iff.mp hf
        refine g_invV [.int x1, .int (w.1 22 x1.toNatClampNeg), .int x3] [.int q8, .ref 0] C (c_X10_payOver l D cA _ (gCi C) w x1 (w.1 22 x1.toNatClampNeg) x3 q9 hq9) kT_X10_payOver kl_X10_371 kim_X10_payOver kse_X10_payOver rfl rfl (i := 0) rfl rfl ⟨by decide, by decide⟩ gk0 (Nat.le_of_ble_eq_true rfl) (gdec dt_X10_worth 40 rfl) rfl (st2 := [.int q9, .int q8, .ref 0]) rfl ?_
        refine g_isub C (gdec dt_X10_worth 41 rfl) ?_
        obtain ⟨q10, hq10, hf⟩ := Option.bind_eq_some_iff.mp hf
        refine g_invV [.int (q8 - q9)] [] C (c_X10_answer l D cA _ (gCi C) w (q8 - q9) q10 hq10) kT_X10_answer kl_X10_114 kim_X10_answer kse_X10_answer rfl rfl (i := 0) rfl rfl ⟨by decide, by decide⟩ gk0 (Nat.le_of_ble_eq_true rfl) (gdec dt_X10_worth 42 rfl) rfl (st2 := [.int q10.1]) rfl ?_
        cases hf
        exact g_iret C rfl (gdec dt_X10_worth 43 rfl)
      · have hf := (if_pos hc6).symm.trans hf
        refine g_sub [0] (lo2 := [(0, .ref 0)]) rfl ?_
        exact L_X10_worth_29 C w hf
set_option maxHeartbeats 4000000 in
set_option maxRecDepth 100000 in
theorem L_X10_leastFan_22 {p : Program} {l : Launch} {e : Env} {s : State} {m : MethodId} {args : Array Value} {below : List Frame} {meth : Method} {c : Code} {D : va_G} {cA ad : Nat → Nat} {q : (Int32 × GW)} (C : gC p c cX10_leastFan meth m s args 3 (some .int) RX10 D cA ad shX) (w : GW) (hf : f_X10_leastFan_22 w = some q) : gW p l e (gRm 3 162) s m args below meth c D cA ad shX 3 0 0 (gQ below D cA ad shX (some (.int q.1)) q.2 args s) 22 [(0, .ref 0)] [] w := by
  unfold f_X10_leastFan_22 at hf
  refine g_aload_n C (gdec dt_X10_leastFan 10 rfl) (i := 0) rfl rfl ?_
  refine g_iconst C (gdec dt_X10_leastFan 11 rfl) ic_1 ?_
  obtain ⟨q8, hq8, hf⟩ := Option.bind_eq_some_iff.mp hf
  refine g_invV [.int (1 : Int32)] [] C (c_X10_refuse l D cA _ (gCi C) w (1 : Int32) q8 hq8) kT_X10_refuse kl_X10_110 kim_X10_refuse kse_X10_refuse rfl rfl (i := 0) rfl rfl ⟨by decide, by decide⟩ gk0 (Nat.le_of_ble_eq_true rfl) (gdec dt_X10_leastFan 12 rfl) rfl (st2 := [.int q8.1]) rfl ?_
  cases hf
  exact g_iret C rfl (gdec dt_X10_leastFan 13 rfl)
set_option maxHeartbeats 4000000 in
set_option maxRecDepth 100000 in
theorem c_X10_leastFan (l : Launch) (D : va_G) (cA ad : Nat → Nat) (hin : gInj ad shX.length) (w : GW) (x1 : Int32) (x2 : Int32) (q : (Int32 × GW)) (hf : F_X10_leastFan x1 x2 w = some q) : gMet l yX10_leastFan cX10_leastFan 3 (some .int) 3 162 D cA ad shX [.ref 0, .int x1, .int x2] w (some (.int q.1)) q.2 := by
  refine g_entry (by decide) hin (Nat.le_of_ble_eq_true rfl) ?_
  intro p e s m args below meth c C
  unfold F_X10_leastFan at hf
  show gW p l e (gRm 3 162) s m args below meth c D cA ad shX 3 0 0 (gQ below D cA ad shX (some (.int q.1)) q.2 args s) 0 [(0, .ref 0), (1, .int x1), (2, .int x2)] [] w
  refine g_aload_n C (gdec dt_X10_leastFan 0 rfl) (i := 0) rfl rfl ?_
  refine g_getr C (j := 14) kf_X10_26 rfl rfl (gdec dt_X10_leastFan 1 rfl) ?_
  refine g_iload_n C (gdec dt_X10_leastFan 2 rfl) (i := 1) rfl rfl ?_
  obtain ⟨q1, hq1, hf⟩ := Option.bind_eq_some_iff.mp hf
  refine g_invVs e_shX_shB_14 [.int x1] [] C (c_X0_hasClerk l D cA _ (gInj_sub em_e_shX_shB_14 (gCi C)) (gsub w e_shX_shB_14) x1 q1 hq1) em_e_shX_shB_14 (by decide) rfl kT_X0_hasClerk kl_X10_266 kim_X0_hasClerk kse_X0_hasClerk rfl rfl (i := 14) rfl rfl ⟨by decide, by decide⟩ gk0 (Nat.le_of_ble_eq_true rfl) (gdec dt_X10_leastFan 3 rfl) rfl (st2 := [.int q1]) (w2 := w) rfl (gput_sub _ _) ?_
  refine g_if_eq C (tgt := 22) (gdec dt_X10_leastFan 4 rfl) (by decide) (fun hc2 => ?_) (fun hc2 => ?_)
  · have hf := (if_pos hc2).symm.trans hf
    refine g_sub [0] (lo2 := [(0, .ref 0)]) rfl ?_
    exact L_X10_leastFan_22 C w hf
  · have hf := (if_neg hc2).symm.trans hf
    refine g_aload_n C (gdec dt_X10_leastFan 5 rfl) (i := 0) rfl rfl ?_
    refine g_getr C (j := 14) kf_X10_26 rfl rfl (gdec dt_X10_leastFan 6 rfl) ?_
    refine g_iload_n C (gdec dt_X10_leastFan 7 rfl) (i := 2) rfl rfl ?_
    obtain ⟨q3, hq3, hf⟩ := Option.bind_eq_some_iff.mp hf
    refine g_invVs e_shX_shB_14 [.int x2] [] C (c_X0_hasRank l D cA _ (gInj_sub em_e_shX_shB_14 (gCi C)) (gsub w e_shX_shB_14) x2 q3 hq3) em_e_shX_shB_14 (by decide) rfl kT_X0_hasRank kl_X10_255 kim_X0_hasRank kse_X0_hasRank rfl rfl (i := 14) rfl rfl ⟨by decide, by decide⟩ gk0 (Nat.le_of_ble_eq_true rfl) (gdec dt_X10_leastFan 8 rfl) rfl (st2 := [.int q3]) (w2 := w) rfl (gput_sub _ _) ?_
    refine g_if_ne C (tgt := 28) (gdec dt_X10_leastFan 9 rfl) (by decide) (fun hc4 => ?_) (fun hc4 => ?_)
    · have hf := (if_neg hc4).symm.trans hf
      refine g_aload_n C (gdec dt_X10_leastFan 14 rfl) (i := 0) rfl rfl ?_
      refine g_iconst C (gdec dt_X10_leastFan 15 rfl) ic_0 ?_
      refine g_aload_n C (gdec dt_X10_leastFan 16 rfl) (i := 0) rfl rfl ?_
      refine g_getr C (j := 14) kf_X10_26 rfl rfl (gdec dt_X10_leastFan 17 rfl) ?_
      refine g_getr C (j := 16) kf_X10_258 rfl rfl (gdec dt_X10_leastFan 18 rfl) ?_
      refine g_iload_n C (gdec dt_X10_leastFan 19 rfl) (i := 2) rfl rfl ?_
      obtain ⟨hg5, hf⟩ := gif hf
      refine g_iald C (i := 16) rfl hg5 rfl (gdec dt_X10_leastFan 20 rfl) ?_
      refine g_aload_n C (gdec dt_X10_leastFan 21 rfl) (i := 0) rfl rfl ?_
      refine g_getr C (j := 14) kf_X10_26 rfl rfl (gdec dt_X10_leastFan 22 rfl) ?_
      refine g_iload_n C (gdec dt_X10_leastFan 23 rfl) (i := 1) rfl rfl ?_
      obtain ⟨q6, hq6, hf⟩ := Option.bind_eq_some_iff.mp hf
      refine g_invVs e_shX_shB_14 [.int x1] [.int (w.1 16 x2.toNatClampNeg), .int (0 : Int32), .ref 0] C (c_X0_looksOf l D cA _ (gInj_sub em_e_shX_shB_14 (gCi C)) (gsub w e_shX_shB_14) x1 q6 hq6) em_e_shX_shB_14 (by decide) rfl kT_X0_looksOf kl_X10_281 kim_X0_looksOf kse_X0_looksOf rfl rfl (i := 14) rfl rfl ⟨by decide, by decide⟩ gk0 (Nat.le_of_ble_eq_true rfl) (gdec dt_X10_leastFan 24 rfl) rfl (st2 := [.int q6, .int (w.1 16 x2.toNatClampNeg), .int (0 : Int32), .ref 0]) (w2 := w) rfl (gput_sub _ _) ?_
      refine g_isub C (gdec dt_X10_leastFan 25 rfl) ?_
      refine g_mmax C (gdec dt_X10_leastFan 26 rfl) kl_X10_377 kst_max ki_Math kc_Mmax (Nat.le_of_ble_eq_true rfl) ⟨by decide, by decide⟩ gk0 ?_
      obtain ⟨q7, hq7, hf⟩ := Option.bind_eq_some_iff.mp hf
      refine g_invV [.int (imax (0 : Int32) ((w.1 16 x2.toNatClampNeg) - q6))] [] C (c_X10_answer l D cA _ (gCi C) w (imax (0 : Int32) ((w.1 16 x2.toNatClampNeg) - q6)) q7 hq7) kT_X10_answer kl_X10_114 kim_X10_answer kse_X10_answer rfl rfl (i := 0) rfl rfl ⟨by decide, by decide⟩ gk0 (Nat.le_of_ble_eq_true rfl) (gdec dt_X10_leastFan 27 rfl) rfl (st2 := [.int q7.1]) rfl ?_
      cases hf
      exact g_iret C rfl (gdec dt_X10_leastFan 28 rfl)
    · have hf := (if_pos hc4).symm.trans hf
      refine g_sub [0] (lo2 := [(0, .ref 0)]) rfl ?_
      exact L_X10_leastFan_22 C w hf
set_option maxHeartbeats 4000000 in
set_option maxRecDepth 100000 in
theorem c_X10_fits (l : Launch) (D : va_G) (cA ad : Nat → Nat) (hin : gInj ad shX.length) (w : GW) (x1 : Int32) (x2 : Int32) (q : (Int32 × GW)) (hf : F_X10_fits x1 x2 w = some q) : gMet l yX10_fits cX10_fits 4 (some .int) 6 234 D cA ad shX [.ref 0, .int x1, .int x2] w (some (.int q.1)) q.2 := by
  refine g_entry (by decide) hin (Nat.le_of_ble_eq_true rfl) ?_
  intro p e s m args below meth c C
  unfold F_X10_fits at hf
  show gW p l e (gRm 6 234) s m args below meth c D cA ad shX 4 0 0 (gQ below D cA ad shX (some (.int q.1)) q.2 args s) 0 [(0, .ref 0), (1, .int x1), (2, .int x2)] [] w
  refine g_aload_n C (gdec dt_X10_fits 0 rfl) (i := 0) rfl rfl ?_
  refine g_getr C (j := 1) kf_X10_12 rfl rfl (gdec dt_X10_fits 1 rfl) ?_
  refine g_iload_n C (gdec dt_X10_fits 2 rfl) (i := 1) rfl rfl ?_
  refine g_iload_n C (gdec dt_X10_fits 3 rfl) (i := 2) rfl rfl ?_
  obtain ⟨q1, hq1, hf⟩ := Option.bind_eq_some_iff.mp hf
  refine g_invVs e_shX_shTr_1 [.int x1, .int x2] [] C (c_X9_whyNoTwos l D cA _ (gInj_sub em_e_shX_shTr_1 (gCi C)) (gsub w e_shX_shTr_1) x1 x2 q1 hq1) em_e_shX_shTr_1 (by decide) rfl kT_X9_whyNoTwos kl_X10_380 kim_X9_whyNoTwos kse_X9_whyNoTwos rfl rfl (i := 1) rfl rfl ⟨by decide, by decide⟩ gk0 (Nat.le_of_ble_eq_true rfl) (gdec dt_X10_fits 4 rfl) rfl (st2 := [.int q1]) (w2 := w) rfl (gput_sub _ _) ?_
  refine g_istore_n C (gdec dt_X10_fits 5 rfl) (i := 3) rfl (by decide) (lo2 := [(3, .int q1), (0, .ref 0), (1, .int x1), (2, .int x2)]) rfl ?_
  refine g_iload_n C (gdec dt_X10_fits 6 rfl) (i := 3) rfl rfl ?_
  refine g_if_eq C (tgt := 20) (gdec dt_X10_fits 7 rfl) (by decide) (fun hc2 => ?_) (fun hc2 => ?_)
  · have hf := (if_pos hc2).symm.trans hf
    refine g_aload_n C (gdec dt_X10_fits 12 rfl) (i := 0) rfl rfl ?_
    refine g_aload_n C (gdec dt_X10_fits 13 rfl) (i := 0) rfl rfl ?_
    refine g_getr C (j := 1) kf_X10_12 rfl rfl (gdec dt_X10_fits 14 rfl) ?_
    refine g_iload_n C (gdec dt_X10_fits 15 rfl) (i := 1) rfl rfl ?_
    refine g_iload_n C (gdec dt_X10_fits 16 rfl) (i := 2) rfl rfl ?_
    obtain ⟨q3, hq3, hf⟩ := Option.bind_eq_some_iff.mp hf
    refine g_invVs e_shX_shTr_1 [.int x1, .int x2] [.ref 0] C (c_X9_fittingStills l D cA _ (gInj_sub em_e_shX_shTr_1 (gCi C)) (gsub w e_shX_shTr_1) x1 x2 q3 hq3) em_e_shX_shTr_1 (by decide) rfl kT_X9_fittingStills kl_X10_383 kim_X9_fittingStills kse_X9_fittingStills rfl rfl (i := 1) rfl rfl ⟨by decide, by decide⟩ gk0 (Nat.le_of_ble_eq_true rfl) (gdec dt_X10_fits 17 rfl) rfl (st2 := [.int q3, .ref 0]) (w2 := w) rfl (gput_sub _ _) ?_
    obtain ⟨q4, hq4, hf⟩ := Option.bind_eq_some_iff.mp hf
    refine g_invSs e_nil [.int q3] [.ref 0] C (c_J6_bitCount_0f7a4 l D cA _ (gInj_sub em_e_nil_shX (gCi C)) (gsub w e_nil) q3 q4 hq4) em_e_nil_shX (by decide) rfl kT_J6_bitCount_0f7a4 kl_X10_386 kst_J6_bitCount_0f7a4 rfl rfl ⟨by decide, by decide⟩ gk0 (Nat.le_of_ble_eq_true rfl) (gdec dt_X10_fits 18 rfl) rfl (st2 := [.int q4, .ref 0]) (w2 := w) rfl (gput_sub _ _) ?_
    obtain ⟨q5, hq5, hf⟩ := Option.bind_eq_some_iff.mp hf
    refine g_invV [.int q4] [] C (c_X10_answer l D cA _ (gCi C) w q4 q5 hq5) kT_X10_answer kl_X10_114 kim_X10_answer kse_X10_answer rfl rfl (i := 0) rfl rfl ⟨by decide, by decide⟩ gk0 (Nat.le_of_ble_eq_true rfl) (gdec dt_X10_fits 19 rfl) rfl (st2 := [.int q5.1]) rfl ?_
    cases hf
    exact g_iret C rfl (gdec dt_X10_fits 20 rfl)
  · have hf := (if_neg hc2).symm.trans hf
    refine g_aload_n C (gdec dt_X10_fits 8 rfl) (i := 0) rfl rfl ?_
    refine g_iload_n C (gdec dt_X10_fits 9 rfl) (i := 3) rfl rfl ?_
    obtain ⟨q6, hq6, hf⟩ := Option.bind_eq_some_iff.mp hf
    refine g_invV [.int q1] [] C (c_X10_refuse l D cA _ (gCi C) w q1 q6 hq6) kT_X10_refuse kl_X10_110 kim_X10_refuse kse_X10_refuse rfl rfl (i := 0) rfl rfl ⟨by decide, by decide⟩ gk0 (Nat.le_of_ble_eq_true rfl) (gdec dt_X10_fits 10 rfl) rfl (st2 := [.int q6.1]) rfl ?_
    cases hf
    exact g_iret C rfl (gdec dt_X10_fits 11 rfl)
set_option maxHeartbeats 4000000 in
set_option maxRecDepth 100000 in
theorem L_X10_memberAt_27 {p : Program} {l : Launch} {e : Env} {s : State} {m : MethodId} {args : Array Value} {below : List Frame} {meth : Method} {c : Code} {D : va_G} {cA ad : Nat → Nat} {w : GW} {q : Int32} (C : gC p c cX10_memberAt meth m s args 4 (some .int) RX10 D cA ad shE) {k4 : Int32 → Int32 → Int32 → Option Int32} (hk4 : ∀ (x0 : Int32) (x2 : Int32) (x3 : Int32), k4 x0 x2 x3 = some q → gW p l e (gRm 1 120) s m args below meth c D cA ad shE 4 0 0 (gQ below D cA ad shE (some (.int q)) w args s) 4 [(0, .int x0), (2, .int x2), (3, .int x3)] [] w) (x0 : Int32) (x2 : Int32) (x3 : Int32) (hf : f_X10_memberAt_27 k4 x0 x2 x3 = some q) : gW p l e (gRm 1 120) s m args below meth c D cA ad shE 4 0 0 (gQ below D cA ad shE (some (.int q)) w args s) 27 [(0, .int x0), (2, .int x2), (3, .int x3)] [] w := by
  unfold f_X10_memberAt_27 at hf
  refine g_iinc C (gdec dt_X10_memberAt 18 rfl) (kk := 2) rfl (v := (x3 + (1 : Int32))) rfl (by decide) (lo2 := [(3, .int (x3 + (1 : Int32))), (0, .int x0), (2, .int x2)]) rfl ?_
  refine g_goto C (tgt := 4) (gdec dt_X10_memberAt 19 rfl) (by decide) ?_
  refine g_sub [1, 2, 0] (lo2 := [(0, .int x0), (2, .int x2), (3, .int (x3 + (1 : Int32)))]) rfl ?_
  exact hk4 x0 x2 (x3 + (1 : Int32)) hf
set_option maxHeartbeats 4000000 in
set_option maxRecDepth 100000 in
theorem Lb_X10_memberAt_4 {p : Program} {l : Launch} {e : Env} {s : State} {m : MethodId} {args : Array Value} {below : List Frame} {meth : Method} {c : Code} {D : va_G} {cA ad : Nat → Nat} {w : GW} {q : Int32} (C : gC p c cX10_memberAt meth m s args 4 (some .int) RX10 D cA ad shE) {k4 : Int32 → Int32 → Int32 → Option Int32} (hk4 : ∀ (x0 : Int32) (x2 : Int32) (x3 : Int32), k4 x0 x2 x3 = some q → gW p l e (gRm 1 120) s m args below meth c D cA ad shE 4 0 0 (gQ below D cA ad shE (some (.int q)) w args s) 4 [(0, .int x0), (2, .int x2), (3, .int x3)] [] w) (x0 : Int32) (x2 : Int32) (x3 : Int32) (hf : b_X10_memberAt_4 k4 x0 x2 x3 = some q) : gW p l e (gRm 1 120) s m args below meth c D cA ad shE 4 0 0 (gQ below D cA ad shE (some (.int q)) w args s) 4 [(0, .int x0), (2, .int x2), (3, .int x3)] [] w := by
  unfold b_X10_memberAt_4 at hf
  refine g_iload_n C (gdec dt_X10_memberAt 4 rfl) (i := 3) rfl rfl ?_
  refine g_bipush C (gdec dt_X10_memberAt 5 rfl) bc_9 ?_
  refine g_icmp_gt C (tgt := 33) (gdec dt_X10_memberAt 6 rfl) (by decide) (fun hc1 => ?_) (fun hc1 => ?_)
  · have hf := (if_pos hc1).symm.trans hf
    refine g_iconst C (gdec dt_X10_memberAt 20 rfl) ic_m1 ?_
    cases hf
    exact g_iret C rfl (gdec dt_X10_memberAt 21 rfl)
  · have hf := (if_neg hc1).symm.trans hf
    refine g_iload_n C (gdec dt_X10_memberAt 7 rfl) (i := 0) rfl rfl ?_
    refine g_iconst C (gdec dt_X10_memberAt 8 rfl) ic_1 ?_
    refine g_iload_n C (gdec dt_X10_memberAt 9 rfl) (i := 3) rfl rfl ?_
    refine g_ishl C (gdec dt_X10_memberAt 10 rfl) ?_
    refine g_iand C (gdec dt_X10_memberAt 11 rfl) ?_
    refine g_if_eq C (tgt := 27) (gdec dt_X10_memberAt 12 rfl) (by decide) (fun hc2 => ?_) (fun hc2 => ?_)
    · have hf := (if_pos hc2).symm.trans hf
      refine g_sub [0, 1, 2] (lo2 := [(0, .int x0), (2, .int x2), (3, .int x3)]) rfl ?_
      exact L_X10_memberAt_27 C hk4 x0 x2 x3 hf
    · have hf := (if_neg hc2).symm.trans hf
      refine g_iload_n C (gdec dt_X10_memberAt 13 rfl) (i := 2) rfl rfl ?_
      refine g_if_ne C (tgt := 24) (gdec dt_X10_memberAt 14 rfl) (by decide) (fun hc3 => ?_) (fun hc3 => ?_)
      · have hf := (if_neg hc3).symm.trans hf
        refine g_iinc C (gdec dt_X10_memberAt 17 rfl) (kk := 1) rfl (v := (x2 + (-1 : Int32))) rfl (by decide) (lo2 := [(2, .int (x2 + (-1 : Int32))), (0, .int x0), (3, .int x3)]) rfl ?_
        refine g_sub [1, 0, 2] (lo2 := [(0, .int x0), (2, .int (x2 + (-1 : Int32))), (3, .int x3)]) rfl ?_
        exact L_X10_memberAt_27 C hk4 x0 (x2 + (-1 : Int32)) x3 hf
      · have hf := (if_pos hc3).symm.trans hf
        refine g_iload_n C (gdec dt_X10_memberAt 15 rfl) (i := 3) rfl rfl ?_
        cases hf
        exact g_iret C rfl (gdec dt_X10_memberAt 16 rfl)
theorem L_X10_memberAt_4 {p : Program} {l : Launch} {e : Env} {s : State} {m : MethodId} {args : Array Value} {below : List Frame} {meth : Method} {c : Code} {D : va_G} {cA ad : Nat → Nat} {w : GW} {q : Int32} (C : gC p c cX10_memberAt meth m s args 4 (some .int) RX10 D cA ad shE) : ∀ (n : Nat) (x0 : Int32) (x2 : Int32) (x3 : Int32), f_X10_memberAt_4 n x0 x2 x3 = some q → gW p l e (gRm 1 120) s m args below meth c D cA ad shE 4 0 0 (gQ below D cA ad shE (some (.int q)) w args s) 4 [(0, .int x0), (2, .int x2), (3, .int x3)] [] w := by
  intro n
  induction n with
  | zero => intro _ _ _ hf; cases hf
  | succ n ih => intro x0 x2 x3 hf; exact Lb_X10_memberAt_4 C ih x0 x2 x3 hf
set_option maxHeartbeats 4000000 in
set_option maxRecDepth 100000 in
theorem c_X10_memberAt (l : Launch) (D : va_G) (cA ad : Nat → Nat) (hin : gInj ad shE.length) (w : GW) (x0 : Int32) (x1 : Int32) (q : Int32) (hf : F_X10_memberAt x0 x1 = some q) : gMet l yX10_memberAt cX10_memberAt 4 (some .int) 1 120 D cA ad shE [.int x0, .int x1] w (some (.int q)) w := by
  refine g_entry (by decide) hin (Nat.le_of_ble_eq_true rfl) ?_
  intro p e s m args below meth c C
  unfold F_X10_memberAt at hf
  show gW p l e (gRm 1 120) s m args below meth c D cA ad shE 4 0 0 (gQ below D cA ad shE (some (.int q)) w args s) 0 [(0, .int x0), (1, .int x1)] [] w
  refine g_iload_n C (gdec dt_X10_memberAt 0 rfl) (i := 1) rfl rfl ?_
  refine g_istore_n C (gdec dt_X10_memberAt 1 rfl) (i := 2) rfl (by decide) (lo2 := [(2, .int x1), (0, .int x0), (1, .int x1)]) rfl ?_
  refine g_iconst C (gdec dt_X10_memberAt 2 rfl) ic_0 ?_
  refine g_istore_n C (gdec dt_X10_memberAt 3 rfl) (i := 3) rfl (by decide) (lo2 := [(3, .int (0 : Int32)), (2, .int x1), (0, .int x0), (1, .int x1)]) rfl ?_
  refine g_sub [2, 1, 0] (lo2 := [(0, .int x0), (2, .int x1), (3, .int (0 : Int32))]) rfl ?_
  exact L_X10_memberAt_4 C FU x0 x1 (0 : Int32) hf
set_option maxHeartbeats 4000000 in
set_option maxRecDepth 100000 in
theorem L_X10_fitsAt_17 {p : Program} {l : Launch} {e : Env} {s : State} {m : MethodId} {args : Array Value} {below : List Frame} {meth : Method} {c : Code} {D : va_G} {cA ad : Nat → Nat} {q : (Int32 × GW)} (C : gC p c cX10_fitsAt meth m s args 5 (some .int) RX10 D cA ad shX) (x1 : Int32) (x2 : Int32) (x3 : Int32) (s0 : Int32) (w : GW) (hf : f_X10_fitsAt_17 x1 x2 x3 s0 w = some q) : gW p l e (gRm 6 234) s m args below meth c D cA ad shX 5 0 0 (gQ below D cA ad shX (some (.int q.1)) q.2 args s) 17 [(0, .ref 0), (1, .int x1), (2, .int x2), (3, .int x3)] [.int s0] w := by
  unfold f_X10_fitsAt_17 at hf
  refine g_istore C (gdec dt_X10_fitsAt 9 rfl) (by decide) (lo2 := [(4, .int s0), (0, .ref 0), (1, .int x1), (2, .int x2), (3, .int x3)]) rfl ?_
  refine g_iload C (gdec dt_X10_fitsAt 10 rfl) rfl ?_
  refine g_if_eq C (tgt := 31) (gdec dt_X10_fitsAt 11 rfl) (by decide) (fun hc3 => ?_) (fun hc3 => ?_)
  · have hf := (if_pos hc3).symm.trans hf
    refine g_aload_n C (gdec dt_X10_fitsAt 16 rfl) (i := 0) rfl rfl ?_
    refine g_aload_n C (gdec dt_X10_fitsAt 17 rfl) (i := 0) rfl rfl ?_
    refine g_getr C (j := 1) kf_X10_12 rfl rfl (gdec dt_X10_fitsAt 18 rfl) ?_
    refine g_iload_n C (gdec dt_X10_fitsAt 19 rfl) (i := 1) rfl rfl ?_
    refine g_iload_n C (gdec dt_X10_fitsAt 20 rfl) (i := 2) rfl rfl ?_
    obtain ⟨q4, hq4, hf⟩ := Option.bind_eq_some_iff.mp hf
    refine g_invVs e_shX_shTr_1 [.int x1, .int x2] [.ref 0] C (c_X9_fittingStills l D cA _ (gInj_sub em_e_shX_shTr_1 (gCi C)) (gsub w e_shX_shTr_1) x1 x2 q4 hq4) em_e_shX_shTr_1 (by decide) rfl kT_X9_fittingStills kl_X10_383 kim_X9_fittingStills kse_X9_fittingStills rfl rfl (i := 1) rfl rfl ⟨by decide, by decide⟩ gk0 (Nat.le_of_ble_eq_true rfl) (gdec dt_X10_fitsAt 21 rfl) rfl (st2 := [.int q4, .ref 0]) (w2 := w) rfl (gput_sub _ _) ?_
    refine g_iload_n C (gdec dt_X10_fitsAt 22 rfl) (i := 3) rfl rfl ?_
    obtain ⟨q5, hq5, hf⟩ := Option.bind_eq_some_iff.mp hf
    refine g_invSs e_nil [.int q4, .int x3] [.ref 0] C (c_X10_memberAt l D cA _ (gInj_sub em_e_nil_shX (gCi C)) (gsub w e_nil) q4 x3 q5 hq5) em_e_nil_shX (by decide) rfl kT_X10_memberAt kl_X10_391 kst_X10_memberAt rfl rfl ⟨by decide, by decide⟩ gk0 (Nat.le_of_ble_eq_true rfl) (gdec dt_X10_fitsAt 23 rfl) rfl (st2 := [.int q5, .ref 0]) (w2 := w) rfl (gput_sub _ _) ?_
    refine g_bipush C (gdec dt_X10_fitsAt 24 rfl) bc_6 ?_
    obtain ⟨q6, hq6, hf⟩ := Option.bind_eq_some_iff.mp hf
    refine g_invV [.int q5, .int (6 : Int32)] [] C (c_X10_answerOrRefuse l D cA _ (gCi C) w q5 (6 : Int32) q6 hq6) kT_X10_answerOrRefuse kl_X10_252 kim_X10_answerOrRefuse kse_X10_answerOrRefuse rfl rfl (i := 0) rfl rfl ⟨by decide, by decide⟩ gk0 (Nat.le_of_ble_eq_true rfl) (gdec dt_X10_fitsAt 25 rfl) rfl (st2 := [.int q6.1]) rfl ?_
    cases hf
    exact g_iret C rfl (gdec dt_X10_fitsAt 26 rfl)
  · have hf := (if_neg hc3).symm.trans hf
    refine g_aload_n C (gdec dt_X10_fitsAt 12 rfl) (i := 0) rfl rfl ?_
    refine g_iload C (gdec dt_X10_fitsAt 13 rfl) rfl ?_
    obtain ⟨q7, hq7, hf⟩ := Option.bind_eq_some_iff.mp hf
    refine g_invV [.int s0] [] C (c_X10_refuse l D cA _ (gCi C) w s0 q7 hq7) kT_X10_refuse kl_X10_110 kim_X10_refuse kse_X10_refuse rfl rfl (i := 0) rfl rfl ⟨by decide, by decide⟩ gk0 (Nat.le_of_ble_eq_true rfl) (gdec dt_X10_fitsAt 14 rfl) rfl (st2 := [.int q7.1]) rfl ?_
    cases hf
    exact g_iret C rfl (gdec dt_X10_fitsAt 15 rfl)
set_option maxHeartbeats 4000000 in
set_option maxRecDepth 100000 in
theorem c_X10_fitsAt (l : Launch) (D : va_G) (cA ad : Nat → Nat) (hin : gInj ad shX.length) (w : GW) (x1 : Int32) (x2 : Int32) (x3 : Int32) (q : (Int32 × GW)) (hf : F_X10_fitsAt x1 x2 x3 w = some q) : gMet l yX10_fitsAt cX10_fitsAt 5 (some .int) 6 234 D cA ad shX [.ref 0, .int x1, .int x2, .int x3] w (some (.int q.1)) q.2 := by
  refine g_entry (by decide) hin (Nat.le_of_ble_eq_true rfl) ?_
  intro p e s m args below meth c C
  unfold F_X10_fitsAt at hf
  show gW p l e (gRm 6 234) s m args below meth c D cA ad shX 5 0 0 (gQ below D cA ad shX (some (.int q.1)) q.2 args s) 0 [(0, .ref 0), (1, .int x1), (2, .int x2), (3, .int x3)] [] w
  refine g_iload_n C (gdec dt_X10_fitsAt 0 rfl) (i := 3) rfl rfl ?_
  refine g_if_ge C (tgt := 8) (gdec dt_X10_fitsAt 1 rfl) (by decide) (fun hc1 => ?_) (fun hc1 => ?_)
  · have hf := (if_pos hc1).symm.trans hf
    refine g_aload_n C (gdec dt_X10_fitsAt 4 rfl) (i := 0) rfl rfl ?_
    refine g_getr C (j := 1) kf_X10_12 rfl rfl (gdec dt_X10_fitsAt 5 rfl) ?_
    refine g_iload_n C (gdec dt_X10_fitsAt 6 rfl) (i := 1) rfl rfl ?_
    refine g_iload_n C (gdec dt_X10_fitsAt 7 rfl) (i := 2) rfl rfl ?_
    obtain ⟨q2, hq2, hf⟩ := Option.bind_eq_some_iff.mp hf
    refine g_invVs e_shX_shTr_1 [.int x1, .int x2] [] C (c_X9_whyNoTwos l D cA _ (gInj_sub em_e_shX_shTr_1 (gCi C)) (gsub w e_shX_shTr_1) x1 x2 q2 hq2) em_e_shX_shTr_1 (by decide) rfl kT_X9_whyNoTwos kl_X10_380 kim_X9_whyNoTwos kse_X9_whyNoTwos rfl rfl (i := 1) rfl rfl ⟨by decide, by decide⟩ gk0 (Nat.le_of_ble_eq_true rfl) (gdec dt_X10_fitsAt 8 rfl) rfl (st2 := [.int q2]) (w2 := w) rfl (gput_sub _ _) ?_
    refine g_sub [0, 1, 2, 3] (lo2 := [(0, .ref 0), (1, .int x1), (2, .int x2), (3, .int x3)]) rfl ?_
    exact L_X10_fitsAt_17 C x1 x2 x3 q2 w hf
  · have hf := (if_neg hc1).symm.trans hf
    refine g_iconst C (gdec dt_X10_fitsAt 2 rfl) ic_1 ?_
    refine g_goto C (tgt := 17) (gdec dt_X10_fitsAt 3 rfl) (by decide) ?_
    refine g_sub [0, 1, 2, 3] (lo2 := [(0, .ref 0), (1, .int x1), (2, .int x2), (3, .int x3)]) rfl ?_
    exact L_X10_fitsAt_17 C x1 x2 x3 (1 : Int32) w hf
set_option maxHeartbeats 4000000 in
set_option maxRecDepth 100000 in
theorem L_X10_mostAlike_51 {p : Program} {l : Launch} {e : Env} {s : State} {m : MethodId} {args : Array Value} {below : List Frame} {meth : Method} {c : Code} {D : va_G} {cA ad : Nat → Nat} {w : GW} {q : Int32} (C : gC p c cX10_mostAlike meth m s args 6 (some .int) RX10 D cA ad shE) {k16 : Int32 → Int32 → Int32 → Int32 → Int32 → Int32 → Option Int32} (hk16 : ∀ (x0 : Int32) (x1 : Int32) (x2 : Int32) (x3 : Int32) (x4 : Int32) (x5 : Int32), k16 x0 x1 x2 x3 x4 x5 = some q → gW p l e (gRm 2 143) s m args below meth c D cA ad shE 6 0 0 (gQ below D cA ad shE (some (.int q)) w args s) 16 [(0, .int x0), (1, .int x1), (2, .int x2), (3, .int x3), (4, .int x4), (5, .int x5)] [] w) (x0 : Int32) (x1 : Int32) (x2 : Int32) (x3 : Int32) (x4 : Int32) (x5 : Int32) (hf : f_X10_mostAlike_51 k16 x0 x1 x2 x3 x4 x5 = some q) : gW p l e (gRm 2 143) s m args below meth c D cA ad shE 6 0 0 (gQ below D cA ad shE (some (.int q)) w args s) 51 [(0, .int x0), (1, .int x1), (2, .int x2), (3, .int x3), (4, .int x4), (5, .int x5)] [] w := by
  unfold f_X10_mostAlike_51 at hf
  refine g_iinc C (gdec dt_X10_mostAlike 30 rfl) (kk := 5) rfl (v := (x5 + (1 : Int32))) rfl (by decide) (lo2 := [(5, .int (x5 + (1 : Int32))), (0, .int x0), (1, .int x1), (2, .int x2), (3, .int x3), (4, .int x4)]) rfl ?_
  refine g_goto C (tgt := 16) (gdec dt_X10_mostAlike 31 rfl) (by decide) ?_
  refine g_sub [1, 2, 3, 4, 5, 0] (lo2 := [(0, .int x0), (1, .int x1), (2, .int x2), (3, .int x3), (4, .int x4), (5, .int (x5 + (1 : Int32)))]) rfl ?_
  exact hk16 x0 x1 x2 x3 x4 (x5 + (1 : Int32)) hf
set_option maxHeartbeats 4000000 in
set_option maxRecDepth 100000 in
theorem Lb_X10_mostAlike_16 {p : Program} {l : Launch} {e : Env} {s : State} {m : MethodId} {args : Array Value} {below : List Frame} {meth : Method} {c : Code} {D : va_G} {cA ad : Nat → Nat} {w : GW} {q : Int32} (C : gC p c cX10_mostAlike meth m s args 6 (some .int) RX10 D cA ad shE) {k4 : Int32 → Int32 → Int32 → Int32 → Option Int32} (hk4 : ∀ (x0 : Int32) (x1 : Int32) (x2 : Int32) (x3 : Int32), k4 x0 x1 x2 x3 = some q → gW p l e (gRm 2 143) s m args below meth c D cA ad shE 6 0 0 (gQ below D cA ad shE (some (.int q)) w args s) 4 [(0, .int x0), (1, .int x1), (2, .int x2), (3, .int x3)] [] w) {k16 : Int32 → Int32 → Int32 → Int32 → Int32 → Int32 → Option Int32} (hk16 : ∀ (x0 : Int32) (x1 : Int32) (x2 : Int32) (x3 : Int32) (x4 : Int32) (x5 : Int32), k16 x0 x1 x2 x3 x4 x5 = some q → gW p l e (gRm 2 143) s m args below meth c D cA ad shE 6 0 0 (gQ below D cA ad shE (some (.int q)) w args s) 16 [(0, .int x0), (1, .int x1), (2, .int x2), (3, .int x3), (4, .int x4), (5, .int x5)] [] w) (x0 : Int32) (x1 : Int32) (x2 : Int32) (x3 : Int32) (x4 : Int32) (x5 : Int32) (hf : b_X10_mostAlike_16 k4 k16 x0 x1 x2 x3 x4 x5 = some q) : gW p l e (gRm 2 143) s m args below meth c D cA ad shE 6 0 0 (gQ below D cA ad shE (some (.int q)) w args s) 16 [(0, .int x0), (1, .int x1), (2, .int x2), (3, .int x3), (4, .int x4), (5, .int x5)] [] w := by
  unfold b_X10_mostAlike_16 at hf
  refine g_iload C (gdec dt_X10_mostAlike 11 rfl) rfl ?_
  refine g_bipush C (gdec dt_X10_mostAlike 12 rfl) bc_9 ?_
  refine g_icmp_gt C (tgt := 57) (gdec dt_X10_mostAlike 13 rfl) (by decide) (fun hc2 => ?_) (fun hc2 => ?_)
  · have hf := (if_pos hc2).symm.trans hf
    refine g_iload_n C (gdec dt_X10_mostAlike 32 rfl) (i := 2) rfl rfl ?_
    refine g_iload C (gdec dt_X10_mostAlike 33 rfl) rfl ?_
    refine g_mmax C (gdec dt_X10_mostAlike 34 rfl) kl_X10_377 kst_max ki_Math kc_Mmax (Nat.le_of_ble_eq_true rfl) ⟨by decide, by decide⟩ gk0 ?_
    refine g_istore_n C (gdec dt_X10_mostAlike 35 rfl) (i := 2) rfl (by decide) (lo2 := [(2, .int (imax x2 x4)), (0, .int x0), (1, .int x1), (3, .int x3), (4, .int x4), (5, .int x5)]) rfl ?_
    refine g_iinc C (gdec dt_X10_mostAlike 36 rfl) (kk := 3) rfl (v := (x3 + (1 : Int32))) rfl (by decide) (lo2 := [(3, .int (x3 + (1 : Int32))), (2, .int (imax x2 x4)), (0, .int x0), (1, .int x1), (4, .int x4), (5, .int x5)]) rfl ?_
    refine g_goto C (tgt := 4) (gdec dt_X10_mostAlike 37 rfl) (by decide) ?_
    refine g_sub [2, 3, 1, 0] (lo2 := [(0, .int x0), (1, .int x1), (2, .int (imax x2 x4)), (3, .int (x3 + (1 : Int32)))]) rfl ?_
    exact hk4 x0 x1 (imax x2 x4) (x3 + (1 : Int32)) hf
  · have hf := (if_neg hc2).symm.trans hf
    refine g_iload_n C (gdec dt_X10_mostAlike 14 rfl) (i := 0) rfl rfl ?_
    refine g_iconst C (gdec dt_X10_mostAlike 15 rfl) ic_1 ?_
    refine g_iload C (gdec dt_X10_mostAlike 16 rfl) rfl ?_
    refine g_ishl C (gdec dt_X10_mostAlike 17 rfl) ?_
    refine g_iand C (gdec dt_X10_mostAlike 18 rfl) ?_
    refine g_if_eq C (tgt := 51) (gdec dt_X10_mostAlike 19 rfl) (by decide) (fun hc3 => ?_) (fun hc3 => ?_)
    · have hf := (if_pos hc3).symm.trans hf
      refine g_sub [0, 1, 2, 3, 4, 5] (lo2 := [(0, .int x0), (1, .int x1), (2, .int x2), (3, .int x3), (4, .int x4), (5, .int x5)]) rfl ?_
      exact L_X10_mostAlike_51 C hk16 x0 x1 x2 x3 x4 x5 hf
    · have hf := (if_neg hc3).symm.trans hf
      refine g_iconst C (gdec dt_X10_mostAlike 20 rfl) ic_0 ?_
      refine g_iload C (gdec dt_X10_mostAlike 21 rfl) rfl ?_
      refine g_iload_n C (gdec dt_X10_mostAlike 22 rfl) (i := 1) rfl rfl ?_
      obtain ⟨q4, hq4, hf⟩ := Option.bind_eq_some_iff.mp hf
      refine g_invSs e_nil [.int (0 : Int32), .int x5, .int x1] [] C (c_X10_greyGrown l D cA _ (gInj_sub em_e_nil_shE (gCi C)) (gsub w e_nil) (0 : Int32) x5 x1 q4 hq4) em_e_nil_shE (by decide) rfl kT_X10_greyGrown kl_X10_397 kst_X10_greyGrown rfl rfl ⟨by decide, by decide⟩ gk0 (Nat.le_of_ble_eq_true rfl) (gdec dt_X10_mostAlike 23 rfl) rfl (st2 := [.int q4]) (w2 := w) rfl (gput_sub _ _) ?_
      refine g_iconst C (gdec dt_X10_mostAlike 24 rfl) ic_0 ?_
      refine g_iload_n C (gdec dt_X10_mostAlike 25 rfl) (i := 3) rfl rfl ?_
      refine g_iload_n C (gdec dt_X10_mostAlike 26 rfl) (i := 1) rfl rfl ?_
      obtain ⟨q5, hq5, hf⟩ := Option.bind_eq_some_iff.mp hf
      refine g_invSs e_nil [.int (0 : Int32), .int x3, .int x1] [.int q4] C (c_X10_greyGrown l D cA _ (gInj_sub em_e_nil_shE (gCi C)) (gsub w e_nil) (0 : Int32) x3 x1 q5 hq5) em_e_nil_shE (by decide) rfl kT_X10_greyGrown kl_X10_397 kst_X10_greyGrown rfl rfl ⟨by decide, by decide⟩ gk0 (Nat.le_of_ble_eq_true rfl) (gdec dt_X10_mostAlike 27 rfl) rfl (st2 := [.int q5, .int q4]) (w2 := w) rfl (gput_sub _ _) ?_
      refine g_icmp_ne C (tgt := 51) (gdec dt_X10_mostAlike 28 rfl) (by decide) (fun hc6 => ?_) (fun hc6 => ?_)
      · have hf := (if_neg hc6).symm.trans hf
        refine g_sub [0, 1, 2, 3, 4, 5] (lo2 := [(0, .int x0), (1, .int x1), (2, .int x2), (3, .int x3), (4, .int x4), (5, .int x5)]) rfl ?_
        exact L_X10_mostAlike_51 C hk16 x0 x1 x2 x3 x4 x5 hf
      · have hf := (if_pos hc6).symm.trans hf
        refine g_iinc C (gdec dt_X10_mostAlike 29 rfl) (kk := 4) rfl (v := (x4 + (1 : Int32))) rfl (by decide) (lo2 := [(4, .int (x4 + (1 : Int32))), (0, .int x0), (1, .int x1), (2, .int x2), (3, .int x3), (5, .int x5)]) rfl ?_
        refine g_sub [1, 2, 3, 4, 0, 5] (lo2 := [(0, .int x0), (1, .int x1), (2, .int x2), (3, .int x3), (4, .int (x4 + (1 : Int32))), (5, .int x5)]) rfl ?_
        exact L_X10_mostAlike_51 C hk16 x0 x1 x2 x3 (x4 + (1 : Int32)) x5 hf
theorem L_X10_mostAlike_16 {p : Program} {l : Launch} {e : Env} {s : State} {m : MethodId} {args : Array Value} {below : List Frame} {meth : Method} {c : Code} {D : va_G} {cA ad : Nat → Nat} {w : GW} {q : Int32} (C : gC p c cX10_mostAlike meth m s args 6 (some .int) RX10 D cA ad shE) {k4 : Int32 → Int32 → Int32 → Int32 → Option Int32} (hk4 : ∀ (x0 : Int32) (x1 : Int32) (x2 : Int32) (x3 : Int32), k4 x0 x1 x2 x3 = some q → gW p l e (gRm 2 143) s m args below meth c D cA ad shE 6 0 0 (gQ below D cA ad shE (some (.int q)) w args s) 4 [(0, .int x0), (1, .int x1), (2, .int x2), (3, .int x3)] [] w) : ∀ (n : Nat) (x0 : Int32) (x1 : Int32) (x2 : Int32) (x3 : Int32) (x4 : Int32) (x5 : Int32), f_X10_mostAlike_16 k4 n x0 x1 x2 x3 x4 x5 = some q → gW p l e (gRm 2 143) s m args below meth c D cA ad shE 6 0 0 (gQ below D cA ad shE (some (.int q)) w args s) 16 [(0, .int x0), (1, .int x1), (2, .int x2), (3, .int x3), (4, .int x4), (5, .int x5)] [] w := by
  intro n
  induction n with
  | zero => intro _ _ _ _ _ _ hf; cases hf
  | succ n ih => intro x0 x1 x2 x3 x4 x5 hf; exact Lb_X10_mostAlike_16 C hk4 ih x0 x1 x2 x3 x4 x5 hf
set_option maxHeartbeats 4000000 in
set_option maxRecDepth 100000 in
theorem Lb_X10_mostAlike_4 {p : Program} {l : Launch} {e : Env} {s : State} {m : MethodId} {args : Array Value} {below : List Frame} {meth : Method} {c : Code} {D : va_G} {cA ad : Nat → Nat} {w : GW} {q : Int32} (C : gC p c cX10_mostAlike meth m s args 6 (some .int) RX10 D cA ad shE) {k4 : Int32 → Int32 → Int32 → Int32 → Option Int32} (hk4 : ∀ (x0 : Int32) (x1 : Int32) (x2 : Int32) (x3 : Int32), k4 x0 x1 x2 x3 = some q → gW p l e (gRm 2 143) s m args below meth c D cA ad shE 6 0 0 (gQ below D cA ad shE (some (.int q)) w args s) 4 [(0, .int x0), (1, .int x1), (2, .int x2), (3, .int x3)] [] w) (x0 : Int32) (x1 : Int32) (x2 : Int32) (x3 : Int32) (hf : b_X10_mostAlike_4 k4 x0 x1 x2 x3 = some q) : gW p l e (gRm 2 143) s m args below meth c D cA ad shE 6 0 0 (gQ below D cA ad shE (some (.int q)) w args s) 4 [(0, .int x0), (1, .int x1), (2, .int x2), (3, .int x3)] [] w := by
  unfold b_X10_mostAlike_4 at hf
  refine g_iload_n C (gdec dt_X10_mostAlike 4 rfl) (i := 3) rfl rfl ?_
  refine g_bipush C (gdec dt_X10_mostAlike 5 rfl) bc_9 ?_
  refine g_icmp_gt C (tgt := 70) (gdec dt_X10_mostAlike 6 rfl) (by decide) (fun hc1 => ?_) (fun hc1 => ?_)
  · have hf := (if_pos hc1).symm.trans hf
    refine g_iload_n C (gdec dt_X10_mostAlike 38 rfl) (i := 2) rfl rfl ?_
    cases hf
    exact g_iret C rfl (gdec dt_X10_mostAlike 39 rfl)
  · have hf := (if_neg hc1).symm.trans hf
    refine g_iconst C (gdec dt_X10_mostAlike 7 rfl) ic_0 ?_
    refine g_istore C (gdec dt_X10_mostAlike 8 rfl) (by decide) (lo2 := [(4, .int (0 : Int32)), (0, .int x0), (1, .int x1), (2, .int x2), (3, .int x3)]) rfl ?_
    refine g_iconst C (gdec dt_X10_mostAlike 9 rfl) ic_0 ?_
    refine g_istore C (gdec dt_X10_mostAlike 10 rfl) (by decide) (lo2 := [(5, .int (0 : Int32)), (4, .int (0 : Int32)), (0, .int x0), (1, .int x1), (2, .int x2), (3, .int x3)]) rfl ?_
    refine g_sub [2, 3, 4, 5, 1, 0] (lo2 := [(0, .int x0), (1, .int x1), (2, .int x2), (3, .int x3), (4, .int (0 : Int32)), (5, .int (0 : Int32))]) rfl ?_
    exact L_X10_mostAlike_16 C hk4 FU x0 x1 x2 x3 (0 : Int32) (0 : Int32) hf
theorem L_X10_mostAlike_4 {p : Program} {l : Launch} {e : Env} {s : State} {m : MethodId} {args : Array Value} {below : List Frame} {meth : Method} {c : Code} {D : va_G} {cA ad : Nat → Nat} {w : GW} {q : Int32} (C : gC p c cX10_mostAlike meth m s args 6 (some .int) RX10 D cA ad shE) : ∀ (n : Nat) (x0 : Int32) (x1 : Int32) (x2 : Int32) (x3 : Int32), f_X10_mostAlike_4 n x0 x1 x2 x3 = some q → gW p l e (gRm 2 143) s m args below meth c D cA ad shE 6 0 0 (gQ below D cA ad shE (some (.int q)) w args s) 4 [(0, .int x0), (1, .int x1), (2, .int x2), (3, .int x3)] [] w := by
  intro n
  induction n with
  | zero => intro _ _ _ _ hf; cases hf
  | succ n ih => intro x0 x1 x2 x3 hf; exact Lb_X10_mostAlike_4 C ih x0 x1 x2 x3 hf
set_option maxHeartbeats 4000000 in
set_option maxRecDepth 100000 in
theorem c_X10_mostAlike (l : Launch) (D : va_G) (cA ad : Nat → Nat) (hin : gInj ad shE.length) (w : GW) (x0 : Int32) (x1 : Int32) (q : Int32) (hf : F_X10_mostAlike x0 x1 = some q) : gMet l yX10_mostAlike cX10_mostAlike 6 (some .int) 2 143 D cA ad shE [.int x0, .int x1] w (some (.int q)) w := by
  refine g_entry (by decide) hin (Nat.le_of_ble_eq_true rfl) ?_
  intro p e s m args below meth c C
  unfold F_X10_mostAlike at hf
  show gW p l e (gRm 2 143) s m args below meth c D cA ad shE 6 0 0 (gQ below D cA ad shE (some (.int q)) w args s) 0 [(0, .int x0), (1, .int x1)] [] w
  refine g_iconst C (gdec dt_X10_mostAlike 0 rfl) ic_0 ?_
  refine g_istore_n C (gdec dt_X10_mostAlike 1 rfl) (i := 2) rfl (by decide) (lo2 := [(2, .int (0 : Int32)), (0, .int x0), (1, .int x1)]) rfl ?_
  refine g_iconst C (gdec dt_X10_mostAlike 2 rfl) ic_0 ?_
  refine g_istore_n C (gdec dt_X10_mostAlike 3 rfl) (i := 3) rfl (by decide) (lo2 := [(3, .int (0 : Int32)), (2, .int (0 : Int32)), (0, .int x0), (1, .int x1)]) rfl ?_
  refine g_sub [2, 3, 1, 0] (lo2 := [(0, .int x0), (1, .int x1), (2, .int (0 : Int32)), (3, .int (0 : Int32))]) rfl ?_
  exact L_X10_mostAlike_4 C FU x0 x1 (0 : Int32) (0 : Int32) hf
set_option maxHeartbeats 4000000 in
set_option maxRecDepth 100000 in
theorem L_X10_ask_81 {p : Program} {l : Launch} {e : Env} {s : State} {m : MethodId} {args : Array Value} {below : List Frame} {meth : Method} {c : Code} {D : va_G} {cA ad : Nat → Nat} {q : (Int32 × GW)} (C : gC p c cX10_ask meth m s args 7 (some .int) RX10 D cA ad shX) {k53 : Int32 → Int32 → Int32 → GW → Option (Int32 × GW)} (hk53 : ∀ (x4 : Int32) (x5 : Int32) (x6 : Int32) (w : GW), k53 x4 x5 x6 w = some q → gW p l e (gRm 6 234) s m args below meth c D cA ad shX 7 0 0 (gQ below D cA ad shX (some (.int q.1)) q.2 args s) 53 [(0, .ref 0), (4, .int x4), (5, .int x5), (6, .int x6)] [] w) (x4 : Int32) (x5 : Int32) (x6 : Int32) (w : GW) (hf : f_X10_ask_81 k53 x4 x5 x6 w = some q) : gW p l e (gRm 6 234) s m args below meth c D cA ad shX 7 0 0 (gQ below D cA ad shX (some (.int q.1)) q.2 args s) 81 [(0, .ref 0), (4, .int x4), (5, .int x5), (6, .int x6)] [] w := by
  unfold f_X10_ask_81 at hf
  refine g_iinc C (gdec dt_X10_ask 42 rfl) (kk := 3) rfl (v := (x6 + (1 : Int32))) rfl (by decide) (lo2 := [(6, .int (x6 + (1 : Int32))), (0, .ref 0), (4, .int x4), (5, .int x5)]) rfl ?_
  refine g_goto C (tgt := 53) (gdec dt_X10_ask 43 rfl) (by decide) ?_
  refine g_sub [1, 2, 3, 0] (lo2 := [(0, .ref 0), (4, .int x4), (5, .int x5), (6, .int (x6 + (1 : Int32)))]) rfl ?_
  exact hk53 x4 x5 (x6 + (1 : Int32)) w hf
set_option maxHeartbeats 4000000 in
set_option maxRecDepth 100000 in
theorem Lb_X10_ask_53 {p : Program} {l : Launch} {e : Env} {s : State} {m : MethodId} {args : Array Value} {below : List Frame} {meth : Method} {c : Code} {D : va_G} {cA ad : Nat → Nat} {q : (Int32 × GW)} (C : gC p c cX10_ask meth m s args 7 (some .int) RX10 D cA ad shX) {k53 : Int32 → Int32 → Int32 → GW → Option (Int32 × GW)} (hk53 : ∀ (x4 : Int32) (x5 : Int32) (x6 : Int32) (w : GW), k53 x4 x5 x6 w = some q → gW p l e (gRm 6 234) s m args below meth c D cA ad shX 7 0 0 (gQ below D cA ad shX (some (.int q.1)) q.2 args s) 53 [(0, .ref 0), (4, .int x4), (5, .int x5), (6, .int x6)] [] w) (x4 : Int32) (x5 : Int32) (x6 : Int32) (w : GW) (hf : b_X10_ask_53 k53 x4 x5 x6 w = some q) : gW p l e (gRm 6 234) s m args below meth c D cA ad shX 7 0 0 (gQ below D cA ad shX (some (.int q.1)) q.2 args s) 53 [(0, .ref 0), (4, .int x4), (5, .int x5), (6, .int x6)] [] w := by
  unfold b_X10_ask_53 at hf
  refine g_iload C (gdec dt_X10_ask 30 rfl) rfl ?_
  refine g_bipush C (gdec dt_X10_ask 31 rfl) bc_20 ?_
  refine g_icmp_gt C (tgt := 87) (gdec dt_X10_ask 32 rfl) (by decide) (fun hc8 => ?_) (fun hc8 => ?_)
  · have hf := (if_pos hc8).symm.trans hf
    refine g_aload_n C (gdec dt_X10_ask 44 rfl) (i := 0) rfl rfl ?_
    refine g_iload C (gdec dt_X10_ask 45 rfl) rfl ?_
    obtain ⟨q9, hq9, hf⟩ := Option.bind_eq_some_iff.mp hf
    refine g_invV [.int x5] [] C (c_X10_answer l D cA _ (gCi C) w x5 q9 hq9) kT_X10_answer kl_X10_114 kim_X10_answer kse_X10_answer rfl rfl (i := 0) rfl rfl ⟨by decide, by decide⟩ gk0 (Nat.le_of_ble_eq_true rfl) (gdec dt_X10_ask 46 rfl) rfl (st2 := [.int q9.1]) rfl ?_
    cases hf
    exact g_iret C rfl (gdec dt_X10_ask 47 rfl)
  · have hf := (if_neg hc8).symm.trans hf
    refine g_iload C (gdec dt_X10_ask 33 rfl) rfl ?_
    refine g_iload C (gdec dt_X10_ask 34 rfl) rfl ?_
    obtain ⟨q10, hq10, hf⟩ := Option.bind_eq_some_iff.mp hf
    refine g_invSs e_nil [.int x4, .int x6] [] C (c_X10_mostAlike l D cA _ (gInj_sub em_e_nil_shX (gCi C)) (gsub w e_nil) x4 x6 q10 hq10) em_e_nil_shX (by decide) rfl kT_X10_mostAlike kl_X10_394 kst_X10_mostAlike rfl rfl ⟨by decide, by decide⟩ gk0 (Nat.le_of_ble_eq_true rfl) (gdec dt_X10_ask 35 rfl) rfl (st2 := [.int q10]) (w2 := w) rfl (gput_sub _ _) ?_
    refine g_iload C (gdec dt_X10_ask 36 rfl) rfl ?_
    refine g_iload C (gdec dt_X10_ask 37 rfl) rfl ?_
    obtain ⟨q11, hq11, hf⟩ := Option.bind_eq_some_iff.mp hf
    refine g_invSs e_nil [.int x4, .int x5] [.int q10] C (c_X10_mostAlike l D cA _ (gInj_sub em_e_nil_shX (gCi C)) (gsub w e_nil) x4 x5 q11 hq11) em_e_nil_shX (by decide) rfl kT_X10_mostAlike kl_X10_394 kst_X10_mostAlike rfl rfl ⟨by decide, by decide⟩ gk0 (Nat.le_of_ble_eq_true rfl) (gdec dt_X10_ask 38 rfl) rfl (st2 := [.int q11, .int q10]) (w2 := w) rfl (gput_sub _ _) ?_
    refine g_icmp_ge C (tgt := 81) (gdec dt_X10_ask 39 rfl) (by decide) (fun hc12 => ?_) (fun hc12 => ?_)
    · have hf := (if_pos hc12).symm.trans hf
      refine g_sub [0, 1, 2, 3] (lo2 := [(0, .ref 0), (4, .int x4), (5, .int x5), (6, .int x6)]) rfl ?_
      exact L_X10_ask_81 C hk53 x4 x5 x6 w hf
    · have hf := (if_neg hc12).symm.trans hf
      refine g_iload C (gdec dt_X10_ask 40 rfl) rfl ?_
      refine g_istore C (gdec dt_X10_ask 41 rfl) (by decide) (lo2 := [(5, .int x6), (0, .ref 0), (4, .int x4), (6, .int x6)]) rfl ?_
      refine g_sub [1, 2, 0, 3] (lo2 := [(0, .ref 0), (4, .int x4), (5, .int x6), (6, .int x6)]) rfl ?_
      exact L_X10_ask_81 C hk53 x4 x6 x6 w hf
theorem L_X10_ask_53 {p : Program} {l : Launch} {e : Env} {s : State} {m : MethodId} {args : Array Value} {below : List Frame} {meth : Method} {c : Code} {D : va_G} {cA ad : Nat → Nat} {q : (Int32 × GW)} (C : gC p c cX10_ask meth m s args 7 (some .int) RX10 D cA ad shX) : ∀ (n : Nat) (x4 : Int32) (x5 : Int32) (x6 : Int32) (w : GW), f_X10_ask_53 n x4 x5 x6 w = some q → gW p l e (gRm 6 234) s m args below meth c D cA ad shX 7 0 0 (gQ below D cA ad shX (some (.int q.1)) q.2 args s) 53 [(0, .ref 0), (4, .int x4), (5, .int x5), (6, .int x6)] [] w := by
  intro n
  induction n with
  | zero => intro _ _ _ _ hf; cases hf
  | succ n ih => intro x4 x5 x6 w hf; exact Lb_X10_ask_53 C ih x4 x5 x6 w hf
set_option maxHeartbeats 4000000 in
set_option maxRecDepth 100000 in
theorem c_X10_ask (l : Launch) (D : va_G) (cA ad : Nat → Nat) (hin : gInj ad shX.length) (w : GW) (x1 : Int32) (x2 : Int32) (q : (Int32 × GW)) (hf : F_X10_ask x1 x2 w = some q) : gMet l yX10_ask cX10_ask 7 (some .int) 6 234 D cA ad shX [.ref 0, .int x1, .int x2] w (some (.int q.1)) q.2 := by
  refine g_entry (by decide) hin (Nat.le_of_ble_eq_true rfl) ?_
  intro p e s m args below meth c C
  unfold F_X10_ask at hf
  show gW p l e (gRm 6 234) s m args below meth c D cA ad shX 7 0 0 (gQ below D cA ad shX (some (.int q.1)) q.2 args s) 0 [(0, .ref 0), (1, .int x1), (2, .int x2)] [] w
  refine g_aload_n C (gdec dt_X10_ask 0 rfl) (i := 0) rfl rfl ?_
  refine g_getr C (j := 1) kf_X10_12 rfl rfl (gdec dt_X10_ask 1 rfl) ?_
  refine g_iload_n C (gdec dt_X10_ask 2 rfl) (i := 1) rfl rfl ?_
  refine g_iload_n C (gdec dt_X10_ask 3 rfl) (i := 2) rfl rfl ?_
  obtain ⟨q1, hq1, hf⟩ := Option.bind_eq_some_iff.mp hf
  refine g_invVs e_shX_shTr_1 [.int x1, .int x2] [] C (c_X9_whyNoTwos l D cA _ (gInj_sub em_e_shX_shTr_1 (gCi C)) (gsub w e_shX_shTr_1) x1 x2 q1 hq1) em_e_shX_shTr_1 (by decide) rfl kT_X9_whyNoTwos kl_X10_380 kim_X9_whyNoTwos kse_X9_whyNoTwos rfl rfl (i := 1) rfl rfl ⟨by decide, by decide⟩ gk0 (Nat.le_of_ble_eq_true rfl) (gdec dt_X10_ask 4 rfl) rfl (st2 := [.int q1]) (w2 := w) rfl (gput_sub _ _) ?_
  refine g_istore_n C (gdec dt_X10_ask 5 rfl) (i := 3) rfl (by decide) (lo2 := [(3, .int q1), (0, .ref 0), (1, .int x1), (2, .int x2)]) rfl ?_
  refine g_iload_n C (gdec dt_X10_ask 6 rfl) (i := 3) rfl rfl ?_
  refine g_if_eq C (tgt := 20) (gdec dt_X10_ask 7 rfl) (by decide) (fun hc2 => ?_) (fun hc2 => ?_)
  · have hf := (if_pos hc2).symm.trans hf
    refine g_aload_n C (gdec dt_X10_ask 12 rfl) (i := 0) rfl rfl ?_
    refine g_getr C (j := 1) kf_X10_12 rfl rfl (gdec dt_X10_ask 13 rfl) ?_
    refine g_iload_n C (gdec dt_X10_ask 14 rfl) (i := 1) rfl rfl ?_
    refine g_iload_n C (gdec dt_X10_ask 15 rfl) (i := 2) rfl rfl ?_
    obtain ⟨q3, hq3, hf⟩ := Option.bind_eq_some_iff.mp hf
    refine g_invVs e_shX_shTr_1 [.int x1, .int x2] [] C (c_X9_fittingStills l D cA _ (gInj_sub em_e_shX_shTr_1 (gCi C)) (gsub w e_shX_shTr_1) x1 x2 q3 hq3) em_e_shX_shTr_1 (by decide) rfl kT_X9_fittingStills kl_X10_383 kim_X9_fittingStills kse_X9_fittingStills rfl rfl (i := 1) rfl rfl ⟨by decide, by decide⟩ gk0 (Nat.le_of_ble_eq_true rfl) (gdec dt_X10_ask 16 rfl) rfl (st2 := [.int q3]) (w2 := w) rfl (gput_sub _ _) ?_
    refine g_istore C (gdec dt_X10_ask 17 rfl) (by decide) (lo2 := [(4, .int q3), (3, .int q1), (0, .ref 0), (1, .int x1), (2, .int x2)]) rfl ?_
    refine g_iload C (gdec dt_X10_ask 18 rfl) rfl ?_
    obtain ⟨q4, hq4, hf⟩ := Option.bind_eq_some_iff.mp hf
    refine g_invSs e_nil [.int q3] [] C (c_J6_bitCount_0f7a4 l D cA _ (gInj_sub em_e_nil_shX (gCi C)) (gsub w e_nil) q3 q4 hq4) em_e_nil_shX (by decide) rfl kT_J6_bitCount_0f7a4 kl_X10_386 kst_J6_bitCount_0f7a4 rfl rfl ⟨by decide, by decide⟩ gk0 (Nat.le_of_ble_eq_true rfl) (gdec dt_X10_ask 19 rfl) rfl (st2 := [.int q4]) (w2 := w) rfl (gput_sub _ _) ?_
    refine g_iconst C (gdec dt_X10_ask 20 rfl) ic_2 ?_
    refine g_icmp_ge C (tgt := 47) (gdec dt_X10_ask 21 rfl) (by decide) (fun hc5 => ?_) (fun hc5 => ?_)
    · have hf := (if_pos hc5).symm.trans hf
      refine g_iconst C (gdec dt_X10_ask 26 rfl) ic_1 ?_
      refine g_istore C (gdec dt_X10_ask 27 rfl) (by decide) (lo2 := [(5, .int (1 : Int32)), (4, .int q3), (3, .int q1), (0, .ref 0), (1, .int x1), (2, .int x2)]) rfl ?_
      refine g_iconst C (gdec dt_X10_ask 28 rfl) ic_2 ?_
      refine g_istore C (gdec dt_X10_ask 29 rfl) (by decide) (lo2 := [(6, .int (2 : Int32)), (5, .int (1 : Int32)), (4, .int q3), (3, .int q1), (0, .ref 0), (1, .int x1), (2, .int x2)]) rfl ?_
      refine g_sub [4, 2, 1, 0] (lo2 := [(0, .ref 0), (4, .int q3), (5, .int (1 : Int32)), (6, .int (2 : Int32))]) rfl ?_
      exact L_X10_ask_53 C FU q3 (1 : Int32) (2 : Int32) w hf
    · have hf := (if_neg hc5).symm.trans hf
      refine g_aload_n C (gdec dt_X10_ask 22 rfl) (i := 0) rfl rfl ?_
      refine g_bipush C (gdec dt_X10_ask 23 rfl) bc_6 ?_
      obtain ⟨q6, hq6, hf⟩ := Option.bind_eq_some_iff.mp hf
      refine g_invV [.int (6 : Int32)] [] C (c_X10_refuse l D cA _ (gCi C) w (6 : Int32) q6 hq6) kT_X10_refuse kl_X10_110 kim_X10_refuse kse_X10_refuse rfl rfl (i := 0) rfl rfl ⟨by decide, by decide⟩ gk0 (Nat.le_of_ble_eq_true rfl) (gdec dt_X10_ask 24 rfl) rfl (st2 := [.int q6.1]) rfl ?_
      cases hf
      exact g_iret C rfl (gdec dt_X10_ask 25 rfl)
  · have hf := (if_neg hc2).symm.trans hf
    refine g_aload_n C (gdec dt_X10_ask 8 rfl) (i := 0) rfl rfl ?_
    refine g_iload_n C (gdec dt_X10_ask 9 rfl) (i := 3) rfl rfl ?_
    obtain ⟨q7, hq7, hf⟩ := Option.bind_eq_some_iff.mp hf
    refine g_invV [.int q1] [] C (c_X10_refuse l D cA _ (gCi C) w q1 q7 hq7) kT_X10_refuse kl_X10_110 kim_X10_refuse kse_X10_refuse rfl rfl (i := 0) rfl rfl ⟨by decide, by decide⟩ gk0 (Nat.le_of_ble_eq_true rfl) (gdec dt_X10_ask 10 rfl) rfl (st2 := [.int q7.1]) rfl ?_
    cases hf
    exact g_iret C rfl (gdec dt_X10_ask 11 rfl)
set_option maxHeartbeats 4000000 in
set_option maxRecDepth 100000 in
theorem c_X10_comes (l : Launch) (D : va_G) (cA ad : Nat → Nat) (hin : gInj ad shX.length) (w : GW) (q : (Int32 × GW)) (hf : F_X10_comes w = some q) : gMet l yX10_comes cX10_comes 1 (some .int) 2 147 D cA ad shX [.ref 0] w (some (.int q.1)) q.2 := by
  refine g_entry (by decide) hin (Nat.le_of_ble_eq_true rfl) ?_
  intro p e s m args below meth c C
  unfold F_X10_comes at hf
  show gW p l e (gRm 2 147) s m args below meth c D cA ad shX 1 0 0 (gQ below D cA ad shX (some (.int q.1)) q.2 args s) 0 [(0, .ref 0)] [] w
  refine g_aload_n C (gdec dt_X10_comes 0 rfl) (i := 0) rfl rfl ?_
  refine g_aload_n C (gdec dt_X10_comes 1 rfl) (i := 0) rfl rfl ?_
  refine g_getr C (j := 14) kf_X10_26 rfl rfl (gdec dt_X10_comes 2 rfl) ?_
  refine g_iconst C (gdec dt_X10_comes 3 rfl) ic_0 ?_
  obtain ⟨q1, hq1, hf⟩ := Option.bind_eq_some_iff.mp hf
  refine g_invVs e_shX_shB_14 [.int (0 : Int32)] [.ref 0] C (c_X0_comingWithout l D cA _ (gInj_sub em_e_shX_shB_14 (gCi C)) (gsub w e_shX_shB_14) (0 : Int32) q1 hq1) em_e_shX_shB_14 (by decide) rfl kT_X0_comingWithout kl_X10_400 kim_X0_comingWithout kse_X0_comingWithout rfl rfl (i := 14) rfl rfl ⟨by decide, by decide⟩ gk0 (Nat.le_of_ble_eq_true rfl) (gdec dt_X10_comes 4 rfl) rfl (st2 := [.int q1, .ref 0]) (w2 := w) rfl (gput_sub _ _) ?_
  obtain ⟨q2, hq2, hf⟩ := Option.bind_eq_some_iff.mp hf
  refine g_invV [.int q1] [] C (c_X10_answer l D cA _ (gCi C) w q1 q2 hq2) kT_X10_answer kl_X10_114 kim_X10_answer kse_X10_answer rfl rfl (i := 0) rfl rfl ⟨by decide, by decide⟩ gk0 (Nat.le_of_ble_eq_true rfl) (gdec dt_X10_comes 5 rfl) rfl (st2 := [.int q2.1]) rfl ?_
  cases hf
  exact g_iret C rfl (gdec dt_X10_comes 6 rfl)
set_option maxHeartbeats 4000000 in
set_option maxRecDepth 100000 in
theorem c_X10_comesFor (l : Launch) (D : va_G) (cA ad : Nat → Nat) (hin : gInj ad shX.length) (w : GW) (q : (Int32 × GW)) (hf : F_X10_comesFor w = some q) : gMet l yX10_comesFor cX10_comesFor 1 (some .int) 2 147 D cA ad shX [.ref 0] w (some (.int q.1)) q.2 := by
  refine g_entry (by decide) hin (Nat.le_of_ble_eq_true rfl) ?_
  intro p e s m args below meth c C
  unfold F_X10_comesFor at hf
  show gW p l e (gRm 2 147) s m args below meth c D cA ad shX 1 0 0 (gQ below D cA ad shX (some (.int q.1)) q.2 args s) 0 [(0, .ref 0)] [] w
  refine g_aload_n C (gdec dt_X10_comesFor 0 rfl) (i := 0) rfl rfl ?_
  refine g_aload_n C (gdec dt_X10_comesFor 1 rfl) (i := 0) rfl rfl ?_
  refine g_getr C (j := 14) kf_X10_26 rfl rfl (gdec dt_X10_comesFor 2 rfl) ?_
  refine g_aload_n C (gdec dt_X10_comesFor 3 rfl) (i := 0) rfl rfl ?_
  refine g_getr C (j := 14) kf_X10_26 rfl rfl (gdec dt_X10_comesFor 4 rfl) ?_
  refine g_iconst C (gdec dt_X10_comesFor 5 rfl) ic_0 ?_
  obtain ⟨q1, hq1, hf⟩ := Option.bind_eq_some_iff.mp hf
  refine g_invVs e_shX_shB_14 [.int (0 : Int32)] [.ref 14, .ref 0] C (c_X0_comingWithout l D cA _ (gInj_sub em_e_shX_shB_14 (gCi C)) (gsub w e_shX_shB_14) (0 : Int32) q1 hq1) em_e_shX_shB_14 (by decide) rfl kT_X0_comingWithout kl_X10_400 kim_X0_comingWithout kse_X0_comingWithout rfl rfl (i := 14) rfl rfl ⟨by decide, by decide⟩ gk0 (Nat.le_of_ble_eq_true rfl) (gdec dt_X10_comesFor 6 rfl) rfl (st2 := [.int q1, .ref 14, .ref 0]) (w2 := w) rfl (gput_sub _ _) ?_
  obtain ⟨q2, hq2, hf⟩ := Option.bind_eq_some_iff.mp hf
  refine g_invVs e_shX_shB_14 [.int q1] [.ref 0] C (c_X0_sumOf l D cA _ (gInj_sub em_e_shX_shB_14 (gCi C)) (gsub w e_shX_shB_14) q1 q2 hq2) em_e_shX_shB_14 (by decide) rfl kT_X0_sumOf kl_X10_239 kim_X0_sumOf kse_X0_sumOf rfl rfl (i := 14) rfl rfl ⟨by decide, by decide⟩ gk0 (Nat.le_of_ble_eq_true rfl) (gdec dt_X10_comesFor 7 rfl) rfl (st2 := [.int q2, .ref 0]) (w2 := w) rfl (gput_sub _ _) ?_
  obtain ⟨q3, hq3, hf⟩ := Option.bind_eq_some_iff.mp hf
  refine g_invV [.int q2] [] C (c_X10_answer l D cA _ (gCi C) w q2 q3 hq3) kT_X10_answer kl_X10_114 kim_X10_answer kse_X10_answer rfl rfl (i := 0) rfl rfl ⟨by decide, by decide⟩ gk0 (Nat.le_of_ble_eq_true rfl) (gdec dt_X10_comesFor 8 rfl) rfl (st2 := [.int q3.1]) rfl ?_
  cases hf
  exact g_iret C rfl (gdec dt_X10_comesFor 9 rfl)
set_option maxHeartbeats 4000000 in
set_option maxRecDepth 100000 in
theorem L_X10_leastCalmed_59 {p : Program} {l : Launch} {e : Env} {s : State} {m : MethodId} {args : Array Value} {below : List Frame} {meth : Method} {c : Code} {D : va_G} {cA ad : Nat → Nat} {w : GW} {q : Int32} (C : gC p c cX10_leastCalmed meth m s args 4 (some .int) RX10 D cA ad shX) {k16 : Int32 → Int32 → Int32 → Option Int32} (hk16 : ∀ (x1 : Int32) (x2 : Int32) (x3 : Int32), k16 x1 x2 x3 = some q → gW p l e (gRm 2 147) s m args below meth c D cA ad shX 4 0 0 (gQ below D cA ad shX (some (.int q)) w args s) 16 [(0, .ref 0), (1, .int x1), (2, .int x2), (3, .int x3)] [] w) (x1 : Int32) (x2 : Int32) (x3 : Int32) (hf : f_X10_leastCalmed_59 k16 w x1 x2 x3 = some q) : gW p l e (gRm 2 147) s m args below meth c D cA ad shX 4 0 0 (gQ below D cA ad shX (some (.int q)) w args s) 59 [(0, .ref 0), (1, .int x1), (2, .int x2), (3, .int x3)] [] w := by
  unfold f_X10_leastCalmed_59 at hf
  refine g_iinc C (gdec dt_X10_leastCalmed 33 rfl) (kk := 3) rfl (v := (x3 + (1 : Int32))) rfl (by decide) (lo2 := [(3, .int (x3 + (1 : Int32))), (0, .ref 0), (1, .int x1), (2, .int x2)]) rfl ?_
  refine g_goto C (tgt := 16) (gdec dt_X10_leastCalmed 34 rfl) (by decide) ?_
  refine g_sub [1, 2, 3, 0] (lo2 := [(0, .ref 0), (1, .int x1), (2, .int x2), (3, .int (x3 + (1 : Int32)))]) rfl ?_
  exact hk16 x1 x2 (x3 + (1 : Int32)) hf
set_option maxHeartbeats 4000000 in
set_option maxRecDepth 100000 in
theorem Lb_X10_leastCalmed_16 {p : Program} {l : Launch} {e : Env} {s : State} {m : MethodId} {args : Array Value} {below : List Frame} {meth : Method} {c : Code} {D : va_G} {cA ad : Nat → Nat} {w : GW} {q : Int32} (C : gC p c cX10_leastCalmed meth m s args 4 (some .int) RX10 D cA ad shX) {k16 : Int32 → Int32 → Int32 → Option Int32} (hk16 : ∀ (x1 : Int32) (x2 : Int32) (x3 : Int32), k16 x1 x2 x3 = some q → gW p l e (gRm 2 147) s m args below meth c D cA ad shX 4 0 0 (gQ below D cA ad shX (some (.int q)) w args s) 16 [(0, .ref 0), (1, .int x1), (2, .int x2), (3, .int x3)] [] w) (x1 : Int32) (x2 : Int32) (x3 : Int32) (hf : b_X10_leastCalmed_16 k16 w x1 x2 x3 = some q) : gW p l e (gRm 2 147) s m args below meth c D cA ad shX 4 0 0 (gQ below D cA ad shX (some (.int q)) w args s) 16 [(0, .ref 0), (1, .int x1), (2, .int x2), (3, .int x3)] [] w := by
  unfold b_X10_leastCalmed_16 at hf
  refine g_iload_n C (gdec dt_X10_leastCalmed 12 rfl) (i := 3) rfl rfl ?_
  refine g_iload_n C (gdec dt_X10_leastCalmed 13 rfl) (i := 1) rfl rfl ?_
  refine g_icmp_gt C (tgt := 65) (gdec dt_X10_leastCalmed 14 rfl) (by decide) (fun hc1 => ?_) (fun hc1 => ?_)
  · have hf := (if_pos hc1).symm.trans hf
    refine g_iload_n C (gdec dt_X10_leastCalmed 35 rfl) (i := 2) rfl rfl ?_
    cases hf
    exact g_iret C rfl (gdec dt_X10_leastCalmed 36 rfl)
  · have hf := (if_neg hc1).symm.trans hf
    refine g_iload_n C (gdec dt_X10_leastCalmed 15 rfl) (i := 3) rfl rfl ?_
    obtain ⟨q2, hq2, hf⟩ := Option.bind_eq_some_iff.mp hf
    refine g_invSs e_nil [.int x3] [] C (c_J6_bitCount_0f7a4 l D cA _ (gInj_sub em_e_nil_shX (gCi C)) (gsub w e_nil) x3 q2 hq2) em_e_nil_shX (by decide) rfl kT_J6_bitCount_0f7a4 kl_X10_386 kst_J6_bitCount_0f7a4 rfl rfl ⟨by decide, by decide⟩ gk0 (Nat.le_of_ble_eq_true rfl) (gdec dt_X10_leastCalmed 16 rfl) rfl (st2 := [.int q2]) (w2 := w) rfl (gput_sub _ _) ?_
    refine g_iload_n C (gdec dt_X10_leastCalmed 17 rfl) (i := 2) rfl rfl ?_
    obtain ⟨q3, hq3, hf⟩ := Option.bind_eq_some_iff.mp hf
    refine g_invSs e_nil [.int x2] [.int q2] C (c_J6_bitCount_0f7a4 l D cA _ (gInj_sub em_e_nil_shX (gCi C)) (gsub w e_nil) x2 q3 hq3) em_e_nil_shX (by decide) rfl kT_J6_bitCount_0f7a4 kl_X10_386 kst_J6_bitCount_0f7a4 rfl rfl ⟨by decide, by decide⟩ gk0 (Nat.le_of_ble_eq_true rfl) (gdec dt_X10_leastCalmed 18 rfl) rfl (st2 := [.int q3, .int q2]) (w2 := w) rfl (gput_sub _ _) ?_
    refine g_icmp_ge C (tgt := 59) (gdec dt_X10_leastCalmed 19 rfl) (by decide) (fun hc4 => ?_) (fun hc4 => ?_)
    · have hf := (if_pos hc4).symm.trans hf
      refine g_sub [0, 1, 2, 3] (lo2 := [(0, .ref 0), (1, .int x1), (2, .int x2), (3, .int x3)]) rfl ?_
      exact L_X10_leastCalmed_59 C hk16 x1 x2 x3 hf
    · have hf := (if_neg hc4).symm.trans hf
      refine g_aload_n C (gdec dt_X10_leastCalmed 20 rfl) (i := 0) rfl rfl ?_
      refine g_getr C (j := 14) kf_X10_26 rfl rfl (gdec dt_X10_leastCalmed 21 rfl) ?_
      refine g_aload_n C (gdec dt_X10_leastCalmed 22 rfl) (i := 0) rfl rfl ?_
      refine g_getr C (j := 14) kf_X10_26 rfl rfl (gdec dt_X10_leastCalmed 23 rfl) ?_
      refine g_iload_n C (gdec dt_X10_leastCalmed 24 rfl) (i := 3) rfl rfl ?_
      obtain ⟨q5, hq5, hf⟩ := Option.bind_eq_some_iff.mp hf
      refine g_invVs e_shX_shB_14 [.int x3] [.ref 14] C (c_X0_comingWithout l D cA _ (gInj_sub em_e_shX_shB_14 (gCi C)) (gsub w e_shX_shB_14) x3 q5 hq5) em_e_shX_shB_14 (by decide) rfl kT_X0_comingWithout kl_X10_400 kim_X0_comingWithout kse_X0_comingWithout rfl rfl (i := 14) rfl rfl ⟨by decide, by decide⟩ gk0 (Nat.le_of_ble_eq_true rfl) (gdec dt_X10_leastCalmed 25 rfl) rfl (st2 := [.int q5, .ref 14]) (w2 := w) rfl (gput_sub _ _) ?_
      obtain ⟨q6, hq6, hf⟩ := Option.bind_eq_some_iff.mp hf
      refine g_invVs e_shX_shB_14 [.int q5] [] C (c_X0_sumOf l D cA _ (gInj_sub em_e_shX_shB_14 (gCi C)) (gsub w e_shX_shB_14) q5 q6 hq6) em_e_shX_shB_14 (by decide) rfl kT_X0_sumOf kl_X10_239 kim_X0_sumOf kse_X0_sumOf rfl rfl (i := 14) rfl rfl ⟨by decide, by decide⟩ gk0 (Nat.le_of_ble_eq_true rfl) (gdec dt_X10_leastCalmed 26 rfl) rfl (st2 := [.int q6]) (w2 := w) rfl (gput_sub _ _) ?_
      refine g_aload_n C (gdec dt_X10_leastCalmed 27 rfl) (i := 0) rfl rfl ?_
      refine g_getr C (j := 14) kf_X10_26 rfl rfl (gdec dt_X10_leastCalmed 28 rfl) ?_
      refine g_geti C kf_X10_223 rfl rfl (gdec dt_X10_leastCalmed 29 rfl) ?_
      refine g_icmp_gt C (tgt := 59) (gdec dt_X10_leastCalmed 30 rfl) (by decide) (fun hc7 => ?_) (fun hc7 => ?_)
      · have hf := (if_pos hc7).symm.trans hf
        refine g_sub [0, 1, 2, 3] (lo2 := [(0, .ref 0), (1, .int x1), (2, .int x2), (3, .int x3)]) rfl ?_
        exact L_X10_leastCalmed_59 C hk16 x1 x2 x3 hf
      · have hf := (if_neg hc7).symm.trans hf
        refine g_iload_n C (gdec dt_X10_leastCalmed 31 rfl) (i := 3) rfl rfl ?_
        refine g_istore_n C (gdec dt_X10_leastCalmed 32 rfl) (i := 2) rfl (by decide) (lo2 := [(2, .int x3), (0, .ref 0), (1, .int x1), (3, .int x3)]) rfl ?_
        refine g_sub [1, 2, 0, 3] (lo2 := [(0, .ref 0), (1, .int x1), (2, .int x3), (3, .int x3)]) rfl ?_
        exact L_X10_leastCalmed_59 C hk16 x1 x3 x3 hf
theorem L_X10_leastCalmed_16 {p : Program} {l : Launch} {e : Env} {s : State} {m : MethodId} {args : Array Value} {below : List Frame} {meth : Method} {c : Code} {D : va_G} {cA ad : Nat → Nat} {w : GW} {q : Int32} (C : gC p c cX10_leastCalmed meth m s args 4 (some .int) RX10 D cA ad shX) : ∀ (n : Nat) (x1 : Int32) (x2 : Int32) (x3 : Int32), f_X10_leastCalmed_16 w n x1 x2 x3 = some q → gW p l e (gRm 2 147) s m args below meth c D cA ad shX 4 0 0 (gQ below D cA ad shX (some (.int q)) w args s) 16 [(0, .ref 0), (1, .int x1), (2, .int x2), (3, .int x3)] [] w := by
  intro n
  induction n with
  | zero => intro _ _ _ hf; cases hf
  | succ n ih => intro x1 x2 x3 hf; exact Lb_X10_leastCalmed_16 C ih x1 x2 x3 hf
set_option maxHeartbeats 4000000 in
set_option maxRecDepth 100000 in
theorem c_X10_leastCalmed (l : Launch) (D : va_G) (cA ad : Nat → Nat) (hin : gInj ad shX.length) (w : GW) (q : Int32) (hf : F_X10_leastCalmed w = some q) : gMet l yX10_leastCalmed cX10_leastCalmed 4 (some .int) 2 147 D cA ad shX [.ref 0] w (some (.int q)) w := by
  refine g_entry (by decide) hin (Nat.le_of_ble_eq_true rfl) ?_
  intro p e s m args below meth c C
  unfold F_X10_leastCalmed at hf
  show gW p l e (gRm 2 147) s m args below meth c D cA ad shX 4 0 0 (gQ below D cA ad shX (some (.int q)) w args s) 0 [(0, .ref 0)] [] w
  refine g_iconst C (gdec dt_X10_leastCalmed 0 rfl) ic_1 ?_
  refine g_aload_n C (gdec dt_X10_leastCalmed 1 rfl) (i := 0) rfl rfl ?_
  refine g_getr C (j := 14) kf_X10_26 rfl rfl (gdec dt_X10_leastCalmed 2 rfl) ?_
  refine g_geti C kf_X10_217 rfl rfl (gdec dt_X10_leastCalmed 3 rfl) ?_
  refine g_ishl C (gdec dt_X10_leastCalmed 4 rfl) ?_
  refine g_iconst C (gdec dt_X10_leastCalmed 5 rfl) ic_1 ?_
  refine g_isub C (gdec dt_X10_leastCalmed 6 rfl) ?_
  refine g_istore_n C (gdec dt_X10_leastCalmed 7 rfl) (i := 1) rfl (by decide) (lo2 := [(1, .int (((1 : Int32) <<< ((w.1 14 6) &&& 31)) - (1 : Int32))), (0, .ref 0)]) rfl ?_
  refine g_iload_n C (gdec dt_X10_leastCalmed 8 rfl) (i := 1) rfl rfl ?_
  refine g_istore_n C (gdec dt_X10_leastCalmed 9 rfl) (i := 2) rfl (by decide) (lo2 := [(2, .int (((1 : Int32) <<< ((w.1 14 6) &&& 31)) - (1 : Int32))), (1, .int (((1 : Int32) <<< ((w.1 14 6) &&& 31)) - (1 : Int32))), (0, .ref 0)]) rfl ?_
  refine g_iconst C (gdec dt_X10_leastCalmed 10 rfl) ic_0 ?_
  refine g_istore_n C (gdec dt_X10_leastCalmed 11 rfl) (i := 3) rfl (by decide) (lo2 := [(3, .int (0 : Int32)), (2, .int (((1 : Int32) <<< ((w.1 14 6) &&& 31)) - (1 : Int32))), (1, .int (((1 : Int32) <<< ((w.1 14 6) &&& 31)) - (1 : Int32))), (0, .ref 0)]) rfl ?_
  refine g_sub [3, 2, 1, 0] (lo2 := [(0, .ref 0), (1, .int (((1 : Int32) <<< ((w.1 14 6) &&& 31)) - (1 : Int32))), (2, .int (((1 : Int32) <<< ((w.1 14 6) &&& 31)) - (1 : Int32))), (3, .int (0 : Int32))]) rfl ?_
  exact L_X10_leastCalmed_16 C FU (((1 : Int32) <<< ((w.1 14 6) &&& 31)) - (1 : Int32)) (((1 : Int32) <<< ((w.1 14 6) &&& 31)) - (1 : Int32)) (0 : Int32) hf
set_option maxHeartbeats 4000000 in
set_option maxRecDepth 100000 in
theorem c_X10_calms (l : Launch) (D : va_G) (cA ad : Nat → Nat) (hin : gInj ad shX.length) (w : GW) (q : (Int32 × GW)) (hf : F_X10_calms w = some q) : gMet l yX10_calms cX10_calms 1 (some .int) 3 170 D cA ad shX [.ref 0] w (some (.int q.1)) q.2 := by
  refine g_entry (by decide) hin (Nat.le_of_ble_eq_true rfl) ?_
  intro p e s m args below meth c C
  unfold F_X10_calms at hf
  show gW p l e (gRm 3 170) s m args below meth c D cA ad shX 1 0 0 (gQ below D cA ad shX (some (.int q.1)) q.2 args s) 0 [(0, .ref 0)] [] w
  refine g_aload_n C (gdec dt_X10_calms 0 rfl) (i := 0) rfl rfl ?_
  refine g_aload_n C (gdec dt_X10_calms 1 rfl) (i := 0) rfl rfl ?_
  obtain ⟨q1, hq1, hf⟩ := Option.bind_eq_some_iff.mp hf
  refine g_invV [] [.ref 0] C (c_X10_leastCalmed l D cA _ (gCi C) w  q1 hq1) kT_X10_leastCalmed kl_X10_403 kim_X10_leastCalmed kse_X10_leastCalmed rfl rfl (i := 0) rfl rfl ⟨by decide, by decide⟩ gk0 (Nat.le_of_ble_eq_true rfl) (gdec dt_X10_calms 2 rfl) rfl (st2 := [.int q1, .ref 0]) rfl ?_
  obtain ⟨q2, hq2, hf⟩ := Option.bind_eq_some_iff.mp hf
  refine g_invSs e_nil [.int q1] [.ref 0] C (c_J6_bitCount_0f7a4 l D cA _ (gInj_sub em_e_nil_shX (gCi C)) (gsub w e_nil) q1 q2 hq2) em_e_nil_shX (by decide) rfl kT_J6_bitCount_0f7a4 kl_X10_386 kst_J6_bitCount_0f7a4 rfl rfl ⟨by decide, by decide⟩ gk0 (Nat.le_of_ble_eq_true rfl) (gdec dt_X10_calms 3 rfl) rfl (st2 := [.int q2, .ref 0]) (w2 := w) rfl (gput_sub _ _) ?_
  obtain ⟨q3, hq3, hf⟩ := Option.bind_eq_some_iff.mp hf
  refine g_invV [.int q2] [] C (c_X10_answer l D cA _ (gCi C) w q2 q3 hq3) kT_X10_answer kl_X10_114 kim_X10_answer kse_X10_answer rfl rfl (i := 0) rfl rfl ⟨by decide, by decide⟩ gk0 (Nat.le_of_ble_eq_true rfl) (gdec dt_X10_calms 4 rfl) rfl (st2 := [.int q3.1]) rfl ?_
  cases hf
  exact g_iret C rfl (gdec dt_X10_calms 5 rfl)
set_option maxHeartbeats 4000000 in
set_option maxRecDepth 100000 in
theorem c_X10_calmSet (l : Launch) (D : va_G) (cA ad : Nat → Nat) (hin : gInj ad shX.length) (w : GW) (q : (Int32 × GW)) (hf : F_X10_calmSet w = some q) : gMet l yX10_calmSet cX10_calmSet 1 (some .int) 3 170 D cA ad shX [.ref 0] w (some (.int q.1)) q.2 := by
  refine g_entry (by decide) hin (Nat.le_of_ble_eq_true rfl) ?_
  intro p e s m args below meth c C
  unfold F_X10_calmSet at hf
  show gW p l e (gRm 3 170) s m args below meth c D cA ad shX 1 0 0 (gQ below D cA ad shX (some (.int q.1)) q.2 args s) 0 [(0, .ref 0)] [] w
  refine g_aload_n C (gdec dt_X10_calmSet 0 rfl) (i := 0) rfl rfl ?_
  refine g_aload_n C (gdec dt_X10_calmSet 1 rfl) (i := 0) rfl rfl ?_
  obtain ⟨q1, hq1, hf⟩ := Option.bind_eq_some_iff.mp hf
  refine g_invV [] [.ref 0] C (c_X10_leastCalmed l D cA _ (gCi C) w  q1 hq1) kT_X10_leastCalmed kl_X10_403 kim_X10_leastCalmed kse_X10_leastCalmed rfl rfl (i := 0) rfl rfl ⟨by decide, by decide⟩ gk0 (Nat.le_of_ble_eq_true rfl) (gdec dt_X10_calmSet 2 rfl) rfl (st2 := [.int q1, .ref 0]) rfl ?_
  obtain ⟨q2, hq2, hf⟩ := Option.bind_eq_some_iff.mp hf
  refine g_invV [.int q1] [] C (c_X10_answer l D cA _ (gCi C) w q1 q2 hq2) kT_X10_answer kl_X10_114 kim_X10_answer kse_X10_answer rfl rfl (i := 0) rfl rfl ⟨by decide, by decide⟩ gk0 (Nat.le_of_ble_eq_true rfl) (gdec dt_X10_calmSet 3 rfl) rfl (st2 := [.int q2.1]) rfl ?_
  cases hf
  exact g_iret C rfl (gdec dt_X10_calmSet 4 rfl)
set_option maxHeartbeats 4000000 in
set_option maxRecDepth 100000 in
theorem L_X10_gainFrom_91 {p : Program} {l : Launch} {e : Env} {s : State} {m : MethodId} {args : Array Value} {below : List Frame} {meth : Method} {c : Code} {D : va_G} {cA ad : Nat → Nat} {w : GW} {q : Int32} {fr0 lm0 : Nat} (C : gC p c cX10_gainFrom meth m s args 6 (some .int) RX10 D cA ad shG) {rec : Int32 → Int32 → Option Int32} (hrec : ∀ (x1 : Int32) (x2 : Int32) (q : Int32), rec x1 x2 = some q → gMet l yX10_gainFrom cX10_gainFrom 6 (some .int) fr0 lm0 D cA ad shG [.ref 0, .int x1, .int x2] w (some (.int q)) w) {k27 : Int32 → Int32 → Int32 → Int32 → Option Int32} (hk27 : ∀ (x1 : Int32) (x2 : Int32) (x3 : Int32) (x4 : Int32), k27 x1 x2 x3 x4 = some q → gW p l e (gRm (fr0 + 3) (lm0 + 162)) s m args below meth c D cA ad shG 6 0 0 (gQ below D cA ad shG (some (.int q)) w args s) 27 [(0, .ref 0), (1, .int x1), (2, .int x2), (3, .int x3), (4, .int x4)] [] w) (x1 : Int32) (x2 : Int32) (x3 : Int32) (x4 : Int32) (hf : f_X10_gainFrom_91 rec k27 w x1 x2 x3 x4 = some q) : gW p l e (gRm (fr0 + 3) (lm0 + 162)) s m args below meth c D cA ad shG 6 0 0 (gQ below D cA ad shG (some (.int q)) w args s) 91 [(0, .ref 0), (1, .int x1), (2, .int x2), (3, .int x3), (4, .int x4)] [] w := by
  unfold f_X10_gainFrom_91 at hf
  refine g_iinc C (gdec dt_X10_gainFrom 55 rfl) (kk := 4) rfl (v := (x4 + (1 : Int32))) rfl (by decide) (lo2 := [(4, .int (x4 + (1 : Int32))), (0, .ref 0), (1, .int x1), (2, .int x2), (3, .int x3)]) rfl ?_
  refine g_goto C (tgt := 27) (gdec dt_X10_gainFrom 56 rfl) (by decide) ?_
  refine g_sub [1, 2, 3, 4, 0] (lo2 := [(0, .ref 0), (1, .int x1), (2, .int x2), (3, .int x3), (4, .int (x4 + (1 : Int32)))]) rfl ?_
  exact hk27 x1 x2 x3 (x4 + (1 : Int32)) hf
set_option maxHeartbeats 4000000 in
set_option maxRecDepth 100000 in
theorem L_X10_gainFrom_90 {p : Program} {l : Launch} {e : Env} {s : State} {m : MethodId} {args : Array Value} {below : List Frame} {meth : Method} {c : Code} {D : va_G} {cA ad : Nat → Nat} {w : GW} {q : Int32} {fr0 lm0 : Nat} (C : gC p c cX10_gainFrom meth m s args 6 (some .int) RX10 D cA ad shG) {rec : Int32 → Int32 → Option Int32} (hrec : ∀ (x1 : Int32) (x2 : Int32) (q : Int32), rec x1 x2 = some q → gMet l yX10_gainFrom cX10_gainFrom 6 (some .int) fr0 lm0 D cA ad shG [.ref 0, .int x1, .int x2] w (some (.int q)) w) {k27 : Int32 → Int32 → Int32 → Int32 → Option Int32} (hk27 : ∀ (x1 : Int32) (x2 : Int32) (x3 : Int32) (x4 : Int32), k27 x1 x2 x3 x4 = some q → gW p l e (gRm (fr0 + 3) (lm0 + 162)) s m args below meth c D cA ad shG 6 0 0 (gQ below D cA ad shG (some (.int q)) w args s) 27 [(0, .ref 0), (1, .int x1), (2, .int x2), (3, .int x3), (4, .int x4)] [] w) (x1 : Int32) (x2 : Int32) (x4 : Int32) (s0 : Int32) (hf : f_X10_gainFrom_90 rec k27 w x1 x2 x4 s0 = some q) : gW p l e (gRm (fr0 + 3) (lm0 + 162)) s m args below meth c D cA ad shG 6 0 0 (gQ below D cA ad shG (some (.int q)) w args s) 90 [(0, .ref 0), (1, .int x1), (2, .int x2), (4, .int x4)] [.int s0] w := by
  unfold f_X10_gainFrom_90 at hf
  refine g_istore_n C (gdec dt_X10_gainFrom 54 rfl) (i := 3) rfl (by decide) (lo2 := [(3, .int s0), (0, .ref 0), (1, .int x1), (2, .int x2), (4, .int x4)]) rfl ?_
  refine g_sub [1, 2, 3, 0, 4] (lo2 := [(0, .ref 0), (1, .int x1), (2, .int x2), (3, .int s0), (4, .int x4)]) rfl ?_
  exact L_X10_gainFrom_91 C hrec hk27 x1 x2 s0 x4 hf
set_option maxHeartbeats 4000000 in
set_option maxRecDepth 100000 in
theorem Lb_X10_gainFrom_27 {p : Program} {l : Launch} {e : Env} {s : State} {m : MethodId} {args : Array Value} {below : List Frame} {meth : Method} {c : Code} {D : va_G} {cA ad : Nat → Nat} {w : GW} {q : Int32} {fr0 lm0 : Nat} (C : gC p c cX10_gainFrom meth m s args 6 (some .int) RX10 D cA ad shG) {rec : Int32 → Int32 → Option Int32} (hrec : ∀ (x1 : Int32) (x2 : Int32) (q : Int32), rec x1 x2 = some q → gMet l yX10_gainFrom cX10_gainFrom 6 (some .int) fr0 lm0 D cA ad shG [.ref 0, .int x1, .int x2] w (some (.int q)) w) {k27 : Int32 → Int32 → Int32 → Int32 → Option Int32} (hk27 : ∀ (x1 : Int32) (x2 : Int32) (x3 : Int32) (x4 : Int32), k27 x1 x2 x3 x4 = some q → gW p l e (gRm (fr0 + 3) (lm0 + 162)) s m args below meth c D cA ad shG 6 0 0 (gQ below D cA ad shG (some (.int q)) w args s) 27 [(0, .ref 0), (1, .int x1), (2, .int x2), (3, .int x3), (4, .int x4)] [] w) (x1 : Int32) (x2 : Int32) (x3 : Int32) (x4 : Int32) (hf : b_X10_gainFrom_27 rec k27 w x1 x2 x3 x4 = some q) : gW p l e (gRm (fr0 + 3) (lm0 + 162)) s m args below meth c D cA ad shG 6 0 0 (gQ below D cA ad shG (some (.int q)) w args s) 27 [(0, .ref 0), (1, .int x1), (2, .int x2), (3, .int x3), (4, .int x4)] [] w := by
  unfold b_X10_gainFrom_27 at hf
  refine g_iload C (gdec dt_X10_gainFrom 18 rfl) rfl ?_
  refine g_aload_n C (gdec dt_X10_gainFrom 19 rfl) (i := 0) rfl rfl ?_
  refine g_geti C kf_X10_417 rfl rfl (gdec dt_X10_gainFrom 20 rfl) ?_
  refine g_icmp_ge C (tgt := 97) (gdec dt_X10_gainFrom 21 rfl) (by decide) (fun hc4 => ?_) (fun hc4 => ?_)
  · have hf := (if_pos hc4).symm.trans hf
    refine g_iload_n C (gdec dt_X10_gainFrom 57 rfl) (i := 3) rfl rfl ?_
    cases hf
    exact g_iret C rfl (gdec dt_X10_gainFrom 58 rfl)
  · have hf := (if_neg hc4).symm.trans hf
    refine g_iload_n C (gdec dt_X10_gainFrom 22 rfl) (i := 2) rfl rfl ?_
    refine g_iconst C (gdec dt_X10_gainFrom 23 rfl) ic_1 ?_
    refine g_iload C (gdec dt_X10_gainFrom 24 rfl) rfl ?_
    refine g_ishl C (gdec dt_X10_gainFrom 25 rfl) ?_
    refine g_iand C (gdec dt_X10_gainFrom 26 rfl) ?_
    refine g_if_ne C (tgt := 91) (gdec dt_X10_gainFrom 27 rfl) (by decide) (fun hc5 => ?_) (fun hc5 => ?_)
    · have hf := (if_neg hc5).symm.trans hf
      refine g_sub [0, 1, 2, 3, 4] (lo2 := [(0, .ref 0), (1, .int x1), (2, .int x2), (3, .int x3), (4, .int x4)]) rfl ?_
      exact L_X10_gainFrom_91 C hrec hk27 x1 x2 x3 x4 hf
    · have hf := (if_pos hc5).symm.trans hf
      refine g_aload_n C (gdec dt_X10_gainFrom 28 rfl) (i := 0) rfl rfl ?_
      refine g_iload C (gdec dt_X10_gainFrom 29 rfl) rfl ?_
      refine g_iload_n C (gdec dt_X10_gainFrom 30 rfl) (i := 1) rfl rfl ?_
      obtain ⟨q6, hq6, hf⟩ := Option.bind_eq_some_iff.mp hf
      refine g_invV [.int x4, .int x1] [] C (c_X2_gainBy l D cA _ (gCi C) w x4 x1 q6 hq6) kT_X2_gainBy kl_X10_418 kim_X2_gainBy kse_X2_gainBy rfl rfl (i := 0) rfl rfl ⟨by show _ ≤ fr0 + _; omega, by show _ ≤ lm0 + _; omega⟩ gk0 (Nat.le_of_ble_eq_true rfl) (gdec dt_X10_gainFrom 31 rfl) rfl (st2 := [.int q6]) rfl ?_
      refine g_aload_n C (gdec dt_X10_gainFrom 32 rfl) (i := 0) rfl rfl ?_
      refine g_iload_n C (gdec dt_X10_gainFrom 33 rfl) (i := 1) rfl rfl ?_
      refine g_iconst C (gdec dt_X10_gainFrom 34 rfl) ic_1 ?_
      refine g_iadd C (gdec dt_X10_gainFrom 35 rfl) ?_
      refine g_iload_n C (gdec dt_X10_gainFrom 36 rfl) (i := 2) rfl rfl ?_
      refine g_iconst C (gdec dt_X10_gainFrom 37 rfl) ic_1 ?_
      refine g_iload C (gdec dt_X10_gainFrom 38 rfl) rfl ?_
      refine g_ishl C (gdec dt_X10_gainFrom 39 rfl) ?_
      refine g_ior C (gdec dt_X10_gainFrom 40 rfl) ?_
      obtain ⟨q7, hq7, hf⟩ := Option.bind_eq_some_iff.mp hf
      refine g_invS [.ref 0, .int (x1 + (1 : Int32)), .int (x2 ||| ((1 : Int32) <<< (x4 &&& 31)))] [.int q6] C (hrec (x1 + (1 : Int32)) (x2 ||| ((1 : Int32) <<< (x4 &&& 31))) q7 hq7) kT_X10_gainFrom kl_X10_413 kst_X10_gainFrom rfl rfl ⟨by show _ ≤ fr0 + _; omega, by show _ ≤ lm0 + _; omega⟩ gk0 (Nat.le_of_ble_eq_true rfl) (gdec dt_X10_gainFrom 41 rfl) rfl (st2 := [.int q7, .int q6]) rfl ?_
      refine g_iadd C (gdec dt_X10_gainFrom 42 rfl) ?_
      refine g_istore C (gdec dt_X10_gainFrom 43 rfl) (by decide) (lo2 := [(5, .int (q6 + q7)), (0, .ref 0), (1, .int x1), (2, .int x2), (3, .int x3), (4, .int x4)]) rfl ?_
      refine g_iload_n C (gdec dt_X10_gainFrom 44 rfl) (i := 1) rfl rfl ?_
      obtain ⟨q8, hq8, hf⟩ := Option.bind_eq_some_iff.mp hf
      refine g_invSs e_nil [.int x1] [] C (c_X2_isSittersTurn l D cA _ (gInj_sub em_e_nil_shG (gCi C)) (gsub w e_nil) x1 q8 hq8) em_e_nil_shG (by decide) rfl kT_X2_isSittersTurn kl_X10_424 kst_X2_isSittersTurn rfl rfl ⟨by show _ ≤ fr0 + _; omega, by show _ ≤ lm0 + _; omega⟩ gk0 (Nat.le_of_ble_eq_true rfl) (gdec dt_X10_gainFrom 45 rfl) rfl (st2 := [.int q8]) (w2 := w) rfl (gput_sub _ _) ?_
      refine g_if_eq C (tgt := 84) (gdec dt_X10_gainFrom 46 rfl) (by decide) (fun hc9 => ?_) (fun hc9 => ?_)
      · have hf := (if_pos hc9).symm.trans hf
        refine g_iload_n C (gdec dt_X10_gainFrom 51 rfl) (i := 3) rfl rfl ?_
        refine g_iload C (gdec dt_X10_gainFrom 52 rfl) rfl ?_
        refine g_mmin C (gdec dt_X10_gainFrom 53 rfl) kl_X10_330 kst_min ki_Math kc_Mmin (Nat.le_of_ble_eq_true rfl) ⟨by show _ ≤ fr0 + _; omega, by show _ ≤ lm0 + _; omega⟩ gk0 ?_
        refine g_sub [1, 2, 3, 5] (lo2 := [(0, .ref 0), (1, .int x1), (2, .int x2), (4, .int x4)]) rfl ?_
        exact L_X10_gainFrom_90 C hrec hk27 x1 x2 x4 (imin x3 (q6 + q7)) hf
      · have hf := (if_neg hc9).symm.trans hf
        refine g_iload_n C (gdec dt_X10_gainFrom 47 rfl) (i := 3) rfl rfl ?_
        refine g_iload C (gdec dt_X10_gainFrom 48 rfl) rfl ?_
        refine g_mmax C (gdec dt_X10_gainFrom 49 rfl) kl_X10_377 kst_max ki_Math kc_Mmax (Nat.le_of_ble_eq_true rfl) ⟨by show _ ≤ fr0 + _; omega, by show _ ≤ lm0 + _; omega⟩ gk0 ?_
        refine g_goto C (tgt := 90) (gdec dt_X10_gainFrom 50 rfl) (by decide) ?_
        refine g_sub [1, 2, 3, 5] (lo2 := [(0, .ref 0), (1, .int x1), (2, .int x2), (4, .int x4)]) rfl ?_
        exact L_X10_gainFrom_90 C hrec hk27 x1 x2 x4 (imax x3 (q6 + q7)) hf
theorem L_X10_gainFrom_27 {p : Program} {l : Launch} {e : Env} {s : State} {m : MethodId} {args : Array Value} {below : List Frame} {meth : Method} {c : Code} {D : va_G} {cA ad : Nat → Nat} {w : GW} {q : Int32} {fr0 lm0 : Nat} (C : gC p c cX10_gainFrom meth m s args 6 (some .int) RX10 D cA ad shG) {rec : Int32 → Int32 → Option Int32} (hrec : ∀ (x1 : Int32) (x2 : Int32) (q : Int32), rec x1 x2 = some q → gMet l yX10_gainFrom cX10_gainFrom 6 (some .int) fr0 lm0 D cA ad shG [.ref 0, .int x1, .int x2] w (some (.int q)) w) : ∀ (n : Nat) (x1 : Int32) (x2 : Int32) (x3 : Int32) (x4 : Int32), f_X10_gainFrom_27 rec w n x1 x2 x3 x4 = some q → gW p l e (gRm (fr0 + 3) (lm0 + 162)) s m args below meth c D cA ad shG 6 0 0 (gQ below D cA ad shG (some (.int q)) w args s) 27 [(0, .ref 0), (1, .int x1), (2, .int x2), (3, .int x3), (4, .int x4)] [] w := by
  intro n
  induction n with
  | zero => intro _ _ _ _ hf; cases hf
  | succ n ih => intro x1 x2 x3 x4 hf; exact Lb_X10_gainFrom_27 C hrec ih x1 x2 x3 x4 hf
set_option maxHeartbeats 4000000 in
set_option maxRecDepth 100000 in
theorem cB_X10_gainFrom (l : Launch) (D : va_G) (cA ad : Nat → Nat) (fr0 lm0 : Nat) (hin : gInj ad shG.length) (w : GW) (x1 : Int32) (x2 : Int32) (q : Int32) {rec : Int32 → Int32 → Option Int32} (hrec : ∀ (x1 : Int32) (x2 : Int32) (q : Int32), rec x1 x2 = some q → gMet l yX10_gainFrom cX10_gainFrom 6 (some .int) fr0 lm0 D cA ad shG [.ref 0, .int x1, .int x2] w (some (.int q)) w) (hf : B_X10_gainFrom rec w x1 x2 = some q) : gMet l yX10_gainFrom cX10_gainFrom 6 (some .int) (fr0 + 3) (lm0 + 162) D cA ad shG [.ref 0, .int x1, .int x2] w (some (.int q)) w := by
  refine g_entry (by decide) hin (Nat.le_of_ble_eq_true rfl) ?_
  intro p e s m args below meth c C
  unfold B_X10_gainFrom at hf
  show gW p l e (gRm (fr0 + 3) (lm0 + 162)) s m args below meth c D cA ad shG 6 0 0 (gQ below D cA ad shG (some (.int q)) w args s) 0 [(0, .ref 0), (1, .int x1), (2, .int x2)] [] w
  refine g_iload_n C (gdec dt_X10_gainFrom 0 rfl) (i := 1) rfl rfl ?_
  refine g_aload_n C (gdec dt_X10_gainFrom 1 rfl) (i := 0) rfl rfl ?_
  refine g_geti C kf_X10_421 rfl rfl (gdec dt_X10_gainFrom 2 rfl) ?_
  refine g_icmp_ge C (tgt := 13) (gdec dt_X10_gainFrom 3 rfl) (by decide) (fun hc1 => ?_) (fun hc1 => ?_)
  · have hf := (if_pos hc1).symm.trans hf
    refine g_iconst C (gdec dt_X10_gainFrom 7 rfl) ic_0 ?_
    cases hf
    exact g_iret C rfl (gdec dt_X10_gainFrom 8 rfl)
  · have hf := (if_neg hc1).symm.trans hf
    refine g_iload_n C (gdec dt_X10_gainFrom 4 rfl) (i := 1) rfl rfl ?_
    refine g_iconst C (gdec dt_X10_gainFrom 5 rfl) ic_4 ?_
    refine g_icmp_lt C (tgt := 15) (gdec dt_X10_gainFrom 6 rfl) (by decide) (fun hc2 => ?_) (fun hc2 => ?_)
    · have hf := (if_pos hc2).symm.trans hf
      refine g_aload_n C (gdec dt_X10_gainFrom 9 rfl) (i := 0) rfl rfl ?_
      refine g_iload_n C (gdec dt_X10_gainFrom 10 rfl) (i := 1) rfl rfl ?_
      refine g_iconst C (gdec dt_X10_gainFrom 11 rfl) ic_1 ?_
      refine g_iadd C (gdec dt_X10_gainFrom 12 rfl) ?_
      refine g_iload_n C (gdec dt_X10_gainFrom 13 rfl) (i := 2) rfl rfl ?_
      obtain ⟨q3, hq3, hf⟩ := Option.bind_eq_some_iff.mp hf
      refine g_invS [.ref 0, .int (x1 + (1 : Int32)), .int x2] [] C (hrec (x1 + (1 : Int32)) x2 q3 hq3) kT_X10_gainFrom kl_X10_413 kst_X10_gainFrom rfl rfl ⟨by show _ ≤ fr0 + _; omega, by show _ ≤ lm0 + _; omega⟩ gk0 (Nat.le_of_ble_eq_true rfl) (gdec dt_X10_gainFrom 14 rfl) rfl (st2 := [.int q3]) rfl ?_
      refine g_istore_n C (gdec dt_X10_gainFrom 15 rfl) (i := 3) rfl (by decide) (lo2 := [(3, .int q3), (0, .ref 0), (1, .int x1), (2, .int x2)]) rfl ?_
      refine g_iconst C (gdec dt_X10_gainFrom 16 rfl) ic_0 ?_
      refine g_istore C (gdec dt_X10_gainFrom 17 rfl) (by decide) (lo2 := [(4, .int (0 : Int32)), (3, .int q3), (0, .ref 0), (1, .int x1), (2, .int x2)]) rfl ?_
      refine g_sub [2, 3, 4, 1, 0] (lo2 := [(0, .ref 0), (1, .int x1), (2, .int x2), (3, .int q3), (4, .int (0 : Int32))]) rfl ?_
      exact L_X10_gainFrom_27 C hrec FU x1 x2 q3 (0 : Int32) hf
    · have hf := (if_neg hc2).symm.trans hf
      refine g_iconst C (gdec dt_X10_gainFrom 7 rfl) ic_0 ?_
      cases hf
      exact g_iret C rfl (gdec dt_X10_gainFrom 8 rfl)
theorem cR_X10_gainFrom (l : Launch) (D : va_G) (cA ad : Nat → Nat) (hin : gInj ad shG.length) (w : GW) : ∀ (d : Nat) (x1 : Int32) (x2 : Int32) (q : Int32), FR_X10_gainFrom w d x1 x2 = some q → gMet l yX10_gainFrom cX10_gainFrom 6 (some .int) (3 * d) (162 * d) D cA ad shG [.ref 0, .int x1, .int x2] w (some (.int q)) w := by
  intro d
  induction d with
  | zero => intro x1 x2 q hf; cases hf
  | succ d ih => intro x1 x2 q hf; exact cB_X10_gainFrom l D cA ad (3 * d) (162 * d) hin w x1 x2 q ih hf
theorem c_X10_gainFrom (l : Launch) (D : va_G) (cA ad : Nat → Nat) (hin : gInj ad shG.length) (w : GW) (x1 : Int32) (x2 : Int32) (q : Int32) (hf : F_X10_gainFrom w x1 x2 = some q) : gMet l yX10_gainFrom cX10_gainFrom 6 (some .int) 18 972 D cA ad shG [.ref 0, .int x1, .int x2] w (some (.int q)) w := cR_X10_gainFrom l D cA ad hin w 6 x1 x2 q hf
set_option maxHeartbeats 4000000 in
set_option maxRecDepth 100000 in
theorem L_X10_game_20 {p : Program} {l : Launch} {e : Env} {s : State} {m : MethodId} {args : Array Value} {below : List Frame} {meth : Method} {c : Code} {D : va_G} {cA ad : Nat → Nat} {q : (Int32 × GW)} (C : gC p c cX10_game meth m s args 3 (some .int) RX10 D cA ad shX) (w : GW) (hf : f_X10_game_20 w = some q) : gW p l e (gRm 19 997) s m args below meth c D cA ad shX 3 0 0 (gQ below D cA ad shX (some (.int q.1)) q.2 args s) 20 [(0, .ref 0)] [] w := by
  unfold f_X10_game_20 at hf
  refine g_aload_n C (gdec dt_X10_game 10 rfl) (i := 0) rfl rfl ?_
  refine g_iconst C (gdec dt_X10_game 11 rfl) ic_1 ?_
  obtain ⟨q10, hq10, hf⟩ := Option.bind_eq_some_iff.mp hf
  refine g_invV [.int (1 : Int32)] [] C (c_X10_refuse l D cA _ (gCi C) w (1 : Int32) q10 hq10) kT_X10_refuse kl_X10_110 kim_X10_refuse kse_X10_refuse rfl rfl (i := 0) rfl rfl ⟨by decide, by decide⟩ gk0 (Nat.le_of_ble_eq_true rfl) (gdec dt_X10_game 12 rfl) rfl (st2 := [.int q10.1]) rfl ?_
  cases hf
  exact g_iret C rfl (gdec dt_X10_game 13 rfl)
set_option maxHeartbeats 4000000 in
set_option maxRecDepth 100000 in
theorem c_X10_game (l : Launch) (D : va_G) (cA ad : Nat → Nat) (hin : gInj ad shX.length) (w : GW) (x1 : Int32) (x2 : Int32) (q : (Int32 × GW)) (hf : F_X10_game x1 x2 w = some q) : gMet l yX10_game cX10_game 3 (some .int) 19 997 D cA ad shX [.ref 0, .int x1, .int x2] w (some (.int q.1)) q.2 := by
  refine g_entry (by decide) hin (Nat.le_of_ble_eq_true rfl) ?_
  intro p e s m args below meth c C
  unfold F_X10_game at hf
  show gW p l e (gRm 19 997) s m args below meth c D cA ad shX 3 0 0 (gQ below D cA ad shX (some (.int q.1)) q.2 args s) 0 [(0, .ref 0), (1, .int x1), (2, .int x2)] [] w
  refine g_aload_n C (gdec dt_X10_game 0 rfl) (i := 0) rfl rfl ?_
  refine g_getr C (j := 14) kf_X10_26 rfl rfl (gdec dt_X10_game 1 rfl) ?_
  refine g_iload_n C (gdec dt_X10_game 2 rfl) (i := 1) rfl rfl ?_
  obtain ⟨q1, hq1, hf⟩ := Option.bind_eq_some_iff.mp hf
  refine g_invVs e_shX_shB_14 [.int x1] [] C (c_X0_hasRank l D cA _ (gInj_sub em_e_shX_shB_14 (gCi C)) (gsub w e_shX_shB_14) x1 q1 hq1) em_e_shX_shB_14 (by decide) rfl kT_X0_hasRank kl_X10_255 kim_X0_hasRank kse_X0_hasRank rfl rfl (i := 14) rfl rfl ⟨by decide, by decide⟩ gk0 (Nat.le_of_ble_eq_true rfl) (gdec dt_X10_game 3 rfl) rfl (st2 := [.int q1]) (w2 := w) rfl (gput_sub _ _) ?_
  refine g_if_eq C (tgt := 20) (gdec dt_X10_game 4 rfl) (by decide) (fun hc2 => ?_) (fun hc2 => ?_)
  · have hf := (if_pos hc2).symm.trans hf
    refine g_sub [0] (lo2 := [(0, .ref 0)]) rfl ?_
    exact L_X10_game_20 C w hf
  · have hf := (if_neg hc2).symm.trans hf
    refine g_iload_n C (gdec dt_X10_game 5 rfl) (i := 2) rfl rfl ?_
    refine g_iconst C (gdec dt_X10_game 6 rfl) ic_0 ?_
    refine g_iconst C (gdec dt_X10_game 7 rfl) ic_4 ?_
    obtain ⟨q3, hq3, hf⟩ := Option.bind_eq_some_iff.mp hf
    refine g_invSs e_nil [.int x2, .int (0 : Int32), .int (4 : Int32)] [] C (c_X10_between l D cA _ (gInj_sub em_e_nil_shX (gCi C)) (gsub w e_nil) x2 (0 : Int32) (4 : Int32) q3 hq3) em_e_nil_shX (by decide) rfl kT_X10_between kl_X10_126 kst_X10_between rfl rfl ⟨by decide, by decide⟩ gk0 (Nat.le_of_ble_eq_true rfl) (gdec dt_X10_game 8 rfl) rfl (st2 := [.int q3]) (w2 := w) rfl (gput_sub _ _) ?_
    refine g_if_ne C (tgt := 26) (gdec dt_X10_game 9 rfl) (by decide) (fun hc4 => ?_) (fun hc4 => ?_)
    · have hf := (if_neg hc4).symm.trans hf
      refine g_aload_n C (gdec dt_X10_game 14 rfl) (i := 0) rfl rfl ?_
      refine g_getr C (j := 134) kf_X10_87 rfl rfl (gdec dt_X10_game 15 rfl) ?_
      refine g_aload_n C (gdec dt_X10_game 16 rfl) (i := 0) rfl rfl ?_
      refine g_getr C (j := 14) kf_X10_26 rfl rfl (gdec dt_X10_game 17 rfl) ?_
      refine g_aload_n C (gdec dt_X10_game 18 rfl) (i := 0) rfl rfl ?_
      refine g_getr C (j := 14) kf_X10_26 rfl rfl (gdec dt_X10_game 19 rfl) ?_
      refine g_getr C (j := 16) kf_X10_258 rfl rfl (gdec dt_X10_game 20 rfl) ?_
      refine g_iload_n C (gdec dt_X10_game 21 rfl) (i := 1) rfl rfl ?_
      obtain ⟨hg5, hf⟩ := gif hf
      refine g_iald C (i := 16) rfl hg5 rfl (gdec dt_X10_game 22 rfl) ?_
      refine g_iload_n C (gdec dt_X10_game 23 rfl) (i := 2) rfl rfl ?_
      obtain ⟨q6, hq6, hf⟩ := Option.bind_eq_some_iff.mp hf
      refine g_invVs e_shX_shGB_134_14 [.ref 14, .int (w.1 16 x1.toNatClampNeg), .int x2] [] C (c_X2_prepare l D cA _ (gInj_sub em_e_shX_shGB_134_14 (gCi C)) (gsub w e_shX_shGB_134_14) (w.1 16 x1.toNatClampNeg) x2 q6 hq6) em_e_shX_shGB_134_14 (by decide) rfl kT_X2_prepare kl_X10_406 kim_X2_prepare kse_X2_prepare rfl rfl (i := 134) rfl rfl ⟨by decide, by decide⟩ gk0 (Nat.le_of_ble_eq_true rfl) (gdec dt_X10_game 24 rfl) rfl (st2 := []) (w2 := (gput w e_shX_shGB_134_14 q6)) rfl rfl ?_
      refine g_aload_n C (gdec dt_X10_game 25 rfl) (i := 0) rfl rfl ?_
      refine g_aload_n C (gdec dt_X10_game 26 rfl) (i := 0) rfl rfl ?_
      refine g_getr C (j := 134) kf_X10_87 rfl rfl (gdec dt_X10_game 27 rfl) ?_
      obtain ⟨q7, hq7, hf⟩ := Option.bind_eq_some_iff.mp hf
      refine g_invVs e_shX_shG_134 [] [.ref 0] C (c_X2_standing l D cA _ (gInj_sub em_e_shX_shG_134 (gCi C)) (gsub (gput w e_shX_shGB_134_14 q6) e_shX_shG_134)  q7 hq7) em_e_shX_shG_134 (by decide) rfl kT_X2_standing kl_X10_410 kim_X2_standing kse_X2_standing rfl rfl (i := 134) rfl rfl ⟨by decide, by decide⟩ gk0 (Nat.le_of_ble_eq_true rfl) (gdec dt_X10_game 28 rfl) rfl (st2 := [.int q7, .ref 0]) (w2 := (gput w e_shX_shGB_134_14 q6)) rfl (gput_sub _ _) ?_
      refine g_aload_n C (gdec dt_X10_game 29 rfl) (i := 0) rfl rfl ?_
      refine g_getr C (j := 134) kf_X10_87 rfl rfl (gdec dt_X10_game 30 rfl) ?_
      refine g_iconst C (gdec dt_X10_game 31 rfl) ic_0 ?_
      refine g_iconst C (gdec dt_X10_game 32 rfl) ic_0 ?_
      obtain ⟨q8, hq8, hf⟩ := Option.bind_eq_some_iff.mp hf
      refine g_invSs e_shX_shG_134 [.ref 134, .int (0 : Int32), .int (0 : Int32)] [.int q7, .ref 0] C (c_X10_gainFrom l D cA _ (gInj_sub em_e_shX_shG_134 (gCi C)) (gsub (gput w e_shX_shGB_134_14 q6) e_shX_shG_134) (0 : Int32) (0 : Int32) q8 hq8) em_e_shX_shG_134 (by decide) rfl kT_X10_gainFrom kl_X10_413 kst_X10_gainFrom rfl rfl ⟨by decide, by decide⟩ gk0 (Nat.le_of_ble_eq_true rfl) (gdec dt_X10_game 33 rfl) rfl (st2 := [.int q8, .int q7, .ref 0]) (w2 := (gput w e_shX_shGB_134_14 q6)) rfl (gput_sub _ _) ?_
      refine g_iadd C (gdec dt_X10_game 34 rfl) ?_
      obtain ⟨q9, hq9, hf⟩ := Option.bind_eq_some_iff.mp hf
      refine g_invV [.int (q7 + q8)] [] C (c_X10_answer l D cA _ (gCi C) (gput w e_shX_shGB_134_14 q6) (q7 + q8) q9 hq9) kT_X10_answer kl_X10_114 kim_X10_answer kse_X10_answer rfl rfl (i := 0) rfl rfl ⟨by decide, by decide⟩ gk0 (Nat.le_of_ble_eq_true rfl) (gdec dt_X10_game 35 rfl) rfl (st2 := [.int q9.1]) rfl ?_
      cases hf
      exact g_iret C rfl (gdec dt_X10_game 36 rfl)
    · have hf := (if_pos hc4).symm.trans hf
      refine g_sub [0] (lo2 := [(0, .ref 0)]) rfl ?_
      exact L_X10_game_20 C w hf
set_option maxHeartbeats 4000000 in
set_option maxRecDepth 100000 in
theorem L_X10_who_20 {p : Program} {l : Launch} {e : Env} {s : State} {m : MethodId} {args : Array Value} {below : List Frame} {meth : Method} {c : Code} {D : va_G} {cA ad : Nat → Nat} {q : (Int32 × GW)} (C : gC p c cX10_who meth m s args 5 (some .int) RX10 D cA ad shX) (w : GW) (hf : f_X10_who_20 w = some q) : gW p l e (gRm 19 997) s m args below meth c D cA ad shX 5 0 0 (gQ below D cA ad shX (some (.int q.1)) q.2 args s) 20 [(0, .ref 0)] [] w := by
  unfold f_X10_who_20 at hf
  refine g_aload_n C (gdec dt_X10_who 10 rfl) (i := 0) rfl rfl ?_
  refine g_iconst C (gdec dt_X10_who 11 rfl) ic_1 ?_
  obtain ⟨q8, hq8, hf⟩ := Option.bind_eq_some_iff.mp hf
  refine g_invV [.int (1 : Int32)] [] C (c_X10_refuse l D cA _ (gCi C) w (1 : Int32) q8 hq8) kT_X10_refuse kl_X10_110 kim_X10_refuse kse_X10_refuse rfl rfl (i := 0) rfl rfl ⟨by decide, by decide⟩ gk0 (Nat.le_of_ble_eq_true rfl) (gdec dt_X10_who 12 rfl) rfl (st2 := [.int q8.1]) rfl ?_
  cases hf
  exact g_iret C rfl (gdec dt_X10_who 13 rfl)
set_option maxHeartbeats 4000000 in
set_option maxRecDepth 100000 in
theorem Lb_X10_who_60 {p : Program} {l : Launch} {e : Env} {s : State} {m : MethodId} {args : Array Value} {below : List Frame} {meth : Method} {c : Code} {D : va_G} {cA ad : Nat → Nat} {q : (Int32 × GW)} (C : gC p c cX10_who meth m s args 5 (some .int) RX10 D cA ad shX) {k60 : Int32 → Int32 → GW → Option (Int32 × GW)} (hk60 : ∀ (x3 : Int32) (x4 : Int32) (w : GW), k60 x3 x4 w = some q → gW p l e (gRm 19 997) s m args below meth c D cA ad shX 5 0 0 (gQ below D cA ad shX (some (.int q.1)) q.2 args s) 60 [(0, .ref 0), (3, .int x3), (4, .int x4)] [] w) (x3 : Int32) (x4 : Int32) (w : GW) (hf : b_X10_who_60 k60 x3 x4 w = some q) : gW p l e (gRm 19 997) s m args below meth c D cA ad shX 5 0 0 (gQ below D cA ad shX (some (.int q.1)) q.2 args s) 60 [(0, .ref 0), (3, .int x3), (4, .int x4)] [] w := by
  unfold b_X10_who_60 at hf
  refine g_iload C (gdec dt_X10_who 33 rfl) rfl ?_
  refine g_aload_n C (gdec dt_X10_who 34 rfl) (i := 0) rfl rfl ?_
  refine g_getr C (j := 134) kf_X10_87 rfl rfl (gdec dt_X10_who 35 rfl) ?_
  refine g_geti C kf_X10_417 rfl rfl (gdec dt_X10_who 36 rfl) ?_
  refine g_icmp_ge C (tgt := 112) (gdec dt_X10_who 37 rfl) (by decide) (fun hc9 => ?_) (fun hc9 => ?_)
  · have hf := (if_pos hc9).symm.trans hf
    refine g_aload_n C (gdec dt_X10_who 59 rfl) (i := 0) rfl rfl ?_
    refine g_bipush C (gdec dt_X10_who 60 rfl) bc_6 ?_
    obtain ⟨q10, hq10, hf⟩ := Option.bind_eq_some_iff.mp hf
    refine g_invV [.int (6 : Int32)] [] C (c_X10_refuse l D cA _ (gCi C) w (6 : Int32) q10 hq10) kT_X10_refuse kl_X10_110 kim_X10_refuse kse_X10_refuse rfl rfl (i := 0) rfl rfl ⟨by decide, by decide⟩ gk0 (Nat.le_of_ble_eq_true rfl) (gdec dt_X10_who 61 rfl) rfl (st2 := [.int q10.1]) rfl ?_
    cases hf
    exact g_iret C rfl (gdec dt_X10_who 62 rfl)
  · have hf := (if_neg hc9).symm.trans hf
    refine g_aload_n C (gdec dt_X10_who 38 rfl) (i := 0) rfl rfl ?_
    refine g_getr C (j := 134) kf_X10_87 rfl rfl (gdec dt_X10_who 39 rfl) ?_
    refine g_iload C (gdec dt_X10_who 40 rfl) rfl ?_
    refine g_iconst C (gdec dt_X10_who 41 rfl) ic_0 ?_
    obtain ⟨q11, hq11, hf⟩ := Option.bind_eq_some_iff.mp hf
    refine g_invVs e_shX_shG_134 [.int x4, .int (0 : Int32)] [] C (c_X2_gainBy l D cA _ (gInj_sub em_e_shX_shG_134 (gCi C)) (gsub w e_shX_shG_134) x4 (0 : Int32) q11 hq11) em_e_shX_shG_134 (by decide) rfl kT_X2_gainBy kl_X10_418 kim_X2_gainBy kse_X2_gainBy rfl rfl (i := 134) rfl rfl ⟨by decide, by decide⟩ gk0 (Nat.le_of_ble_eq_true rfl) (gdec dt_X10_who 42 rfl) rfl (st2 := [.int q11]) (w2 := w) rfl (gput_sub _ _) ?_
    refine g_aload_n C (gdec dt_X10_who 43 rfl) (i := 0) rfl rfl ?_
    refine g_getr C (j := 134) kf_X10_87 rfl rfl (gdec dt_X10_who 44 rfl) ?_
    refine g_iconst C (gdec dt_X10_who 45 rfl) ic_1 ?_
    refine g_iconst C (gdec dt_X10_who 46 rfl) ic_1 ?_
    refine g_iload C (gdec dt_X10_who 47 rfl) rfl ?_
    refine g_ishl C (gdec dt_X10_who 48 rfl) ?_
    obtain ⟨q12, hq12, hf⟩ := Option.bind_eq_some_iff.mp hf
    refine g_invSs e_shX_shG_134 [.ref 134, .int (1 : Int32), .int ((1 : Int32) <<< (x4 &&& 31))] [.int q11] C (c_X10_gainFrom l D cA _ (gInj_sub em_e_shX_shG_134 (gCi C)) (gsub w e_shX_shG_134) (1 : Int32) ((1 : Int32) <<< (x4 &&& 31)) q12 hq12) em_e_shX_shG_134 (by decide) rfl kT_X10_gainFrom kl_X10_413 kst_X10_gainFrom rfl rfl ⟨by decide, by decide⟩ gk0 (Nat.le_of_ble_eq_true rfl) (gdec dt_X10_who 49 rfl) rfl (st2 := [.int q12, .int q11]) (w2 := w) rfl (gput_sub _ _) ?_
    refine g_iadd C (gdec dt_X10_who 50 rfl) ?_
    refine g_iload_n C (gdec dt_X10_who 51 rfl) (i := 3) rfl rfl ?_
    refine g_icmp_ne C (tgt := 106) (gdec dt_X10_who 52 rfl) (by decide) (fun hc13 => ?_) (fun hc13 => ?_)
    · have hf := (if_neg hc13).symm.trans hf
      refine g_iinc C (gdec dt_X10_who 57 rfl) (kk := 2) rfl (v := (x4 + (1 : Int32))) rfl (by decide) (lo2 := [(4, .int (x4 + (1 : Int32))), (0, .ref 0), (3, .int x3)]) rfl ?_
      refine g_goto C (tgt := 60) (gdec dt_X10_who 58 rfl) (by decide) ?_
      refine g_sub [1, 2, 0] (lo2 := [(0, .ref 0), (3, .int x3), (4, .int (x4 + (1 : Int32)))]) rfl ?_
      exact hk60 x3 (x4 + (1 : Int32)) w hf
    · have hf := (if_pos hc13).symm.trans hf
      refine g_aload_n C (gdec dt_X10_who 53 rfl) (i := 0) rfl rfl ?_
      refine g_iload C (gdec dt_X10_who 54 rfl) rfl ?_
      obtain ⟨q14, hq14, hf⟩ := Option.bind_eq_some_iff.mp hf
      refine g_invV [.int x4] [] C (c_X10_answer l D cA _ (gCi C) w x4 q14 hq14) kT_X10_answer kl_X10_114 kim_X10_answer kse_X10_answer rfl rfl (i := 0) rfl rfl ⟨by decide, by decide⟩ gk0 (Nat.le_of_ble_eq_true rfl) (gdec dt_X10_who 55 rfl) rfl (st2 := [.int q14.1]) rfl ?_
      cases hf
      exact g_iret C rfl (gdec dt_X10_who 56 rfl)
theorem L_X10_who_60 {p : Program} {l : Launch} {e : Env} {s : State} {m : MethodId} {args : Array Value} {below : List Frame} {meth : Method} {c : Code} {D : va_G} {cA ad : Nat → Nat} {q : (Int32 × GW)} (C : gC p c cX10_who meth m s args 5 (some .int) RX10 D cA ad shX) : ∀ (n : Nat) (x3 : Int32) (x4 : Int32) (w : GW), f_X10_who_60 n x3 x4 w = some q → gW p l e (gRm 19 997) s m args below meth c D cA ad shX 5 0 0 (gQ below D cA ad shX (some (.int q.1)) q.2 args s) 60 [(0, .ref 0), (3, .int x3), (4, .int x4)] [] w := by
  intro n
  induction n with
  | zero => intro _ _ _ hf; cases hf
  | succ n ih => intro x3 x4 w hf; exact Lb_X10_who_60 C ih x3 x4 w hf
set_option maxHeartbeats 4000000 in
set_option maxRecDepth 100000 in
theorem c_X10_who (l : Launch) (D : va_G) (cA ad : Nat → Nat) (hin : gInj ad shX.length) (w : GW) (x1 : Int32) (x2 : Int32) (q : (Int32 × GW)) (hf : F_X10_who x1 x2 w = some q) : gMet l yX10_who cX10_who 5 (some .int) 19 997 D cA ad shX [.ref 0, .int x1, .int x2] w (some (.int q.1)) q.2 := by
  refine g_entry (by decide) hin (Nat.le_of_ble_eq_true rfl) ?_
  intro p e s m args below meth c C
  unfold F_X10_who at hf
  show gW p l e (gRm 19 997) s m args below meth c D cA ad shX 5 0 0 (gQ below D cA ad shX (some (.int q.1)) q.2 args s) 0 [(0, .ref 0), (1, .int x1), (2, .int x2)] [] w
  refine g_aload_n C (gdec dt_X10_who 0 rfl) (i := 0) rfl rfl ?_
  refine g_getr C (j := 14) kf_X10_26 rfl rfl (gdec dt_X10_who 1 rfl) ?_
  refine g_iload_n C (gdec dt_X10_who 2 rfl) (i := 1) rfl rfl ?_
  obtain ⟨q1, hq1, hf⟩ := Option.bind_eq_some_iff.mp hf
  refine g_invVs e_shX_shB_14 [.int x1] [] C (c_X0_hasRank l D cA _ (gInj_sub em_e_shX_shB_14 (gCi C)) (gsub w e_shX_shB_14) x1 q1 hq1) em_e_shX_shB_14 (by decide) rfl kT_X0_hasRank kl_X10_255 kim_X0_hasRank kse_X0_hasRank rfl rfl (i := 14) rfl rfl ⟨by decide, by decide⟩ gk0 (Nat.le_of_ble_eq_true rfl) (gdec dt_X10_who 3 rfl) rfl (st2 := [.int q1]) (w2 := w) rfl (gput_sub _ _) ?_
  refine g_if_eq C (tgt := 20) (gdec dt_X10_who 4 rfl) (by decide) (fun hc2 => ?_) (fun hc2 => ?_)
  · have hf := (if_pos hc2).symm.trans hf
    refine g_sub [0] (lo2 := [(0, .ref 0)]) rfl ?_
    exact L_X10_who_20 C w hf
  · have hf := (if_neg hc2).symm.trans hf
    refine g_iload_n C (gdec dt_X10_who 5 rfl) (i := 2) rfl rfl ?_
    refine g_iconst C (gdec dt_X10_who 6 rfl) ic_1 ?_
    refine g_iconst C (gdec dt_X10_who 7 rfl) ic_4 ?_
    obtain ⟨q3, hq3, hf⟩ := Option.bind_eq_some_iff.mp hf
    refine g_invSs e_nil [.int x2, .int (1 : Int32), .int (4 : Int32)] [] C (c_X10_between l D cA _ (gInj_sub em_e_nil_shX (gCi C)) (gsub w e_nil) x2 (1 : Int32) (4 : Int32) q3 hq3) em_e_nil_shX (by decide) rfl kT_X10_between kl_X10_126 kst_X10_between rfl rfl ⟨by decide, by decide⟩ gk0 (Nat.le_of_ble_eq_true rfl) (gdec dt_X10_who 8 rfl) rfl (st2 := [.int q3]) (w2 := w) rfl (gput_sub _ _) ?_
    refine g_if_ne C (tgt := 26) (gdec dt_X10_who 9 rfl) (by decide) (fun hc4 => ?_) (fun hc4 => ?_)
    · have hf := (if_neg hc4).symm.trans hf
      refine g_aload_n C (gdec dt_X10_who 14 rfl) (i := 0) rfl rfl ?_
      refine g_getr C (j := 134) kf_X10_87 rfl rfl (gdec dt_X10_who 15 rfl) ?_
      refine g_aload_n C (gdec dt_X10_who 16 rfl) (i := 0) rfl rfl ?_
      refine g_getr C (j := 14) kf_X10_26 rfl rfl (gdec dt_X10_who 17 rfl) ?_
      refine g_aload_n C (gdec dt_X10_who 18 rfl) (i := 0) rfl rfl ?_
      refine g_getr C (j := 14) kf_X10_26 rfl rfl (gdec dt_X10_who 19 rfl) ?_
      refine g_getr C (j := 16) kf_X10_258 rfl rfl (gdec dt_X10_who 20 rfl) ?_
      refine g_iload_n C (gdec dt_X10_who 21 rfl) (i := 1) rfl rfl ?_
      obtain ⟨hg5, hf⟩ := gif hf
      refine g_iald C (i := 16) rfl hg5 rfl (gdec dt_X10_who 22 rfl) ?_
      refine g_iload_n C (gdec dt_X10_who 23 rfl) (i := 2) rfl rfl ?_
      obtain ⟨q6, hq6, hf⟩ := Option.bind_eq_some_iff.mp hf
      refine g_invVs e_shX_shGB_134_14 [.ref 14, .int (w.1 16 x1.toNatClampNeg), .int x2] [] C (c_X2_prepare l D cA _ (gInj_sub em_e_shX_shGB_134_14 (gCi C)) (gsub w e_shX_shGB_134_14) (w.1 16 x1.toNatClampNeg) x2 q6 hq6) em_e_shX_shGB_134_14 (by decide) rfl kT_X2_prepare kl_X10_406 kim_X2_prepare kse_X2_prepare rfl rfl (i := 134) rfl rfl ⟨by decide, by decide⟩ gk0 (Nat.le_of_ble_eq_true rfl) (gdec dt_X10_who 24 rfl) rfl (st2 := []) (w2 := (gput w e_shX_shGB_134_14 q6)) rfl rfl ?_
      refine g_aload_n C (gdec dt_X10_who 25 rfl) (i := 0) rfl rfl ?_
      refine g_getr C (j := 134) kf_X10_87 rfl rfl (gdec dt_X10_who 26 rfl) ?_
      refine g_iconst C (gdec dt_X10_who 27 rfl) ic_0 ?_
      refine g_iconst C (gdec dt_X10_who 28 rfl) ic_0 ?_
      obtain ⟨q7, hq7, hf⟩ := Option.bind_eq_some_iff.mp hf
      refine g_invSs e_shX_shG_134 [.ref 134, .int (0 : Int32), .int (0 : Int32)] [] C (c_X10_gainFrom l D cA _ (gInj_sub em_e_shX_shG_134 (gCi C)) (gsub (gput w e_shX_shGB_134_14 q6) e_shX_shG_134) (0 : Int32) (0 : Int32) q7 hq7) em_e_shX_shG_134 (by decide) rfl kT_X10_gainFrom kl_X10_413 kst_X10_gainFrom rfl rfl ⟨by decide, by decide⟩ gk0 (Nat.le_of_ble_eq_true rfl) (gdec dt_X10_who 29 rfl) rfl (st2 := [.int q7]) (w2 := (gput w e_shX_shGB_134_14 q6)) rfl (gput_sub _ _) ?_
      refine g_istore_n C (gdec dt_X10_who 30 rfl) (i := 3) rfl (by decide) (lo2 := [(3, .int q7), (0, .ref 0), (1, .int x1), (2, .int x2)]) rfl ?_
      refine g_iconst C (gdec dt_X10_who 31 rfl) ic_0 ?_
      refine g_istore C (gdec dt_X10_who 32 rfl) (by decide) (lo2 := [(4, .int (0 : Int32)), (3, .int q7), (0, .ref 0), (1, .int x1), (2, .int x2)]) rfl ?_
      refine g_sub [2, 1, 0] (lo2 := [(0, .ref 0), (3, .int q7), (4, .int (0 : Int32))]) rfl ?_
      exact L_X10_who_60 C FU q7 (0 : Int32) (gput w e_shX_shGB_134_14 q6) hf
    · have hf := (if_pos hc4).symm.trans hf
      refine g_sub [0] (lo2 := [(0, .ref 0)]) rfl ?_
      exact L_X10_who_20 C w hf
set_option maxHeartbeats 4000000 in
set_option maxRecDepth 100000 in
theorem Lb_X10_power_5 {p : Program} {l : Launch} {e : Env} {s : State} {m : MethodId} {args : Array Value} {below : List Frame} {meth : Method} {c : Code} {D : va_G} {cA ad : Nat → Nat} {w : GW} {q : Int64} (C : gC p c cX10_power meth m s args 5 (some .long) RX10 D cA ad shE) {k5 : Int32 → Int32 → Int64 → Int32 → Option Int64} (hk5 : ∀ (x0 : Int32) (x1 : Int32) (x2 : Int64) (x4 : Int32), k5 x0 x1 x2 x4 = some q → gW p l e (gRm 1 120) s m args below meth c D cA ad shE 5 0 0 (gQ below D cA ad shE (some (.long q)) w args s) 5 [(0, .int x0), (1, .int x1), (2, .long x2), (4, .int x4)] [] w) (x0 : Int32) (x1 : Int32) (x2 : Int64) (x4 : Int32) (hf : b_X10_power_5 k5 x0 x1 x2 x4 = some q) : gW p l e (gRm 1 120) s m args below meth c D cA ad shE 5 0 0 (gQ below D cA ad shE (some (.long q)) w args s) 5 [(0, .int x0), (1, .int x1), (2, .long x2), (4, .int x4)] [] w := by
  unfold b_X10_power_5 at hf
  refine g_iload C (gdec dt_X10_power 4 rfl) rfl ?_
  refine g_iload_n C (gdec dt_X10_power 5 rfl) (i := 1) rfl rfl ?_
  refine g_icmp_ge C (tgt := 22) (gdec dt_X10_power 6 rfl) (by decide) (fun hc1 => ?_) (fun hc1 => ?_)
  · have hf := (if_pos hc1).symm.trans hf
    refine g_lload_n C (gdec dt_X10_power 14 rfl) (i := 2) rfl rfl ?_
    cases hf
    exact g_lret C rfl (gdec dt_X10_power 15 rfl)
  · have hf := (if_neg hc1).symm.trans hf
    refine g_lload_n C (gdec dt_X10_power 7 rfl) (i := 2) rfl rfl ?_
    refine g_iload_n C (gdec dt_X10_power 8 rfl) (i := 0) rfl rfl ?_
    refine g_i2l C (gdec dt_X10_power 9 rfl) ?_
    refine g_lmul C (gdec dt_X10_power 10 rfl) ?_
    refine g_lstore_n C (gdec dt_X10_power 11 rfl) (i := 2) rfl (by decide) (lo2 := [(2, .long (x2 * x0.toInt64)), (0, .int x0), (1, .int x1), (4, .int x4)]) rfl ?_
    refine g_iinc C (gdec dt_X10_power 12 rfl) (kk := 3) rfl (v := (x4 + (1 : Int32))) rfl (by decide) (lo2 := [(4, .int (x4 + (1 : Int32))), (2, .long (x2 * x0.toInt64)), (0, .int x0), (1, .int x1)]) rfl ?_
    refine g_goto C (tgt := 5) (gdec dt_X10_power 13 rfl) (by decide) ?_
    refine g_sub [2, 3, 1, 0] (lo2 := [(0, .int x0), (1, .int x1), (2, .long (x2 * x0.toInt64)), (4, .int (x4 + (1 : Int32)))]) rfl ?_
    exact hk5 x0 x1 (x2 * x0.toInt64) (x4 + (1 : Int32)) hf
theorem L_X10_power_5 {p : Program} {l : Launch} {e : Env} {s : State} {m : MethodId} {args : Array Value} {below : List Frame} {meth : Method} {c : Code} {D : va_G} {cA ad : Nat → Nat} {w : GW} {q : Int64} (C : gC p c cX10_power meth m s args 5 (some .long) RX10 D cA ad shE) : ∀ (n : Nat) (x0 : Int32) (x1 : Int32) (x2 : Int64) (x4 : Int32), f_X10_power_5 n x0 x1 x2 x4 = some q → gW p l e (gRm 1 120) s m args below meth c D cA ad shE 5 0 0 (gQ below D cA ad shE (some (.long q)) w args s) 5 [(0, .int x0), (1, .int x1), (2, .long x2), (4, .int x4)] [] w := by
  intro n
  induction n with
  | zero => intro _ _ _ _ hf; cases hf
  | succ n ih => intro x0 x1 x2 x4 hf; exact Lb_X10_power_5 C ih x0 x1 x2 x4 hf
set_option maxHeartbeats 4000000 in
set_option maxRecDepth 100000 in
theorem c_X10_power (l : Launch) (D : va_G) (cA ad : Nat → Nat) (hin : gInj ad shE.length) (w : GW) (x0 : Int32) (x1 : Int32) (q : Int64) (hf : F_X10_power x0 x1 = some q) : gMet l yX10_power cX10_power 5 (some .long) 1 120 D cA ad shE [.int x0, .int x1] w (some (.long q)) w := by
  refine g_entry (by decide) hin (Nat.le_of_ble_eq_true rfl) ?_
  intro p e s m args below meth c C
  unfold F_X10_power at hf
  show gW p l e (gRm 1 120) s m args below meth c D cA ad shE 5 0 0 (gQ below D cA ad shE (some (.long q)) w args s) 0 [(0, .int x0), (1, .int x1)] [] w
  refine g_lconst C (gdec dt_X10_power 0 rfl) lc_1 ?_
  refine g_lstore_n C (gdec dt_X10_power 1 rfl) (i := 2) rfl (by decide) (lo2 := [(2, .long (1 : Int64)), (0, .int x0), (1, .int x1)]) rfl ?_
  refine g_iconst C (gdec dt_X10_power 2 rfl) ic_0 ?_
  refine g_istore C (gdec dt_X10_power 3 rfl) (by decide) (lo2 := [(4, .int (0 : Int32)), (2, .long (1 : Int64)), (0, .int x0), (1, .int x1)]) rfl ?_
  refine g_sub [2, 3, 1, 0] (lo2 := [(0, .int x0), (1, .int x1), (2, .long (1 : Int64)), (4, .int (0 : Int32))]) rfl ?_
  exact L_X10_power_5 C FU x0 x1 (1 : Int64) (0 : Int32) hf
set_option maxHeartbeats 4000000 in
set_option maxRecDepth 100000 in
theorem c_X10_waysOfShams (l : Launch) (D : va_G) (cA ad : Nat → Nat) (hin : gInj ad shX.length) (w : GW) (x1 : Int32) (q : Int64) (hf : F_X10_waysOfShams w x1 = some q) : gMet l yX10_waysOfShams cX10_waysOfShams 2 (some .long) 2 144 D cA ad shX [.ref 0, .int x1] w (some (.long q)) w := by
  refine g_entry (by decide) hin (Nat.le_of_ble_eq_true rfl) ?_
  intro p e s m args below meth c C
  unfold F_X10_waysOfShams at hf
  show gW p l e (gRm 2 144) s m args below meth c D cA ad shX 2 0 0 (gQ below D cA ad shX (some (.long q)) w args s) 0 [(0, .ref 0), (1, .int x1)] [] w
  refine g_aload_n C (gdec dt_X10_waysOfShams 0 rfl) (i := 0) rfl rfl ?_
  refine g_getr C (j := 14) kf_X10_26 rfl rfl (gdec dt_X10_waysOfShams 1 rfl) ?_
  refine g_geti C kf_X10_220 rfl rfl (gdec dt_X10_waysOfShams 2 rfl) ?_
  refine g_iload_n C (gdec dt_X10_waysOfShams 3 rfl) (i := 1) rfl rfl ?_
  obtain ⟨q1, hq1, hf⟩ := Option.bind_eq_some_iff.mp hf
  refine g_invSs e_nil [.int (w.1 14 0), .int x1] [] C (c_X10_power l D cA _ (gInj_sub em_e_nil_shX (gCi C)) (gsub w e_nil) (w.1 14 0) x1 q1 hq1) em_e_nil_shX (by decide) rfl kT_X10_power kl_X10_431 kst_X10_power rfl rfl ⟨by decide, by decide⟩ gk0 (Nat.le_of_ble_eq_true rfl) (gdec dt_X10_waysOfShams 4 rfl) rfl (st2 := [.long q1]) (w2 := w) rfl (gput_sub _ _) ?_
  refine g_bipush C (gdec dt_X10_waysOfShams 5 rfl) bc_16 ?_
  refine g_aload_n C (gdec dt_X10_waysOfShams 6 rfl) (i := 0) rfl rfl ?_
  refine g_getr C (j := 14) kf_X10_26 rfl rfl (gdec dt_X10_waysOfShams 7 rfl) ?_
  refine g_geti C kf_X10_220 rfl rfl (gdec dt_X10_waysOfShams 8 rfl) ?_
  refine g_isub C (gdec dt_X10_waysOfShams 9 rfl) ?_
  refine g_aload_n C (gdec dt_X10_waysOfShams 10 rfl) (i := 0) rfl rfl ?_
  refine g_getr C (j := 14) kf_X10_26 rfl rfl (gdec dt_X10_waysOfShams 11 rfl) ?_
  refine g_geti C kf_X10_190 rfl rfl (gdec dt_X10_waysOfShams 12 rfl) ?_
  refine g_iload_n C (gdec dt_X10_waysOfShams 13 rfl) (i := 1) rfl rfl ?_
  refine g_isub C (gdec dt_X10_waysOfShams 14 rfl) ?_
  obtain ⟨q2, hq2, hf⟩ := Option.bind_eq_some_iff.mp hf
  refine g_invSs e_nil [.int ((16 : Int32) - (w.1 14 0)), .int ((w.1 14 5) - x1)] [.long q1] C (c_X10_power l D cA _ (gInj_sub em_e_nil_shX (gCi C)) (gsub w e_nil) ((16 : Int32) - (w.1 14 0)) ((w.1 14 5) - x1) q2 hq2) em_e_nil_shX (by decide) rfl kT_X10_power kl_X10_431 kst_X10_power rfl rfl ⟨by decide, by decide⟩ gk0 (Nat.le_of_ble_eq_true rfl) (gdec dt_X10_waysOfShams 15 rfl) rfl (st2 := [.long q2, .long q1]) (w2 := w) rfl (gput_sub _ _) ?_
  refine g_lmul C (gdec dt_X10_waysOfShams 16 rfl) ?_
  cases hf
  exact g_lret C rfl (gdec dt_X10_waysOfShams 17 rfl)
set_option maxHeartbeats 4000000 in
set_option maxRecDepth 100000 in
theorem L_X10_shams_56 {p : Program} {l : Launch} {e : Env} {s : State} {m : MethodId} {args : Array Value} {below : List Frame} {meth : Method} {c : Code} {D : va_G} {cA ad : Nat → Nat} {q : (Int32 × GW)} (C : gC p c cX10_shams meth m s args 5 (some .boolean) RX10 D cA ad shX) {k21 : Int32 → Int64 → Int32 → GW → Option (Int32 × GW)} (hk21 : ∀ (x1 : Int32) (x2 : Int64) (x4 : Int32) (w : GW), k21 x1 x2 x4 w = some q → gW p l e (gRm 3 176) s m args below meth c D cA ad shX 5 0 0 (gQ below D cA ad shX (some (.int q.1)) q.2 args s) 21 [(0, .ref 0), (1, .int x1), (2, .long x2), (4, .int x4)] [] w) (x1 : Int32) (x2 : Int64) (x4 : Int32) (w : GW) (hf : f_X10_shams_56 k21 x1 x2 x4 w = some q) : gW p l e (gRm 3 176) s m args below meth c D cA ad shX 5 0 0 (gQ below D cA ad shX (some (.int q.1)) q.2 args s) 56 [(0, .ref 0), (1, .int x1), (2, .long x2), (4, .int x4)] [] w := by
  unfold f_X10_shams_56 at hf
  refine g_iinc C (gdec dt_X10_shams 31 rfl) (kk := 3) rfl (v := (x4 + (1 : Int32))) rfl (by decide) (lo2 := [(4, .int (x4 + (1 : Int32))), (0, .ref 0), (1, .int x1), (2, .long x2)]) rfl ?_
  refine g_goto C (tgt := 21) (gdec dt_X10_shams 32 rfl) (by decide) ?_
  refine g_sub [1, 2, 3, 0] (lo2 := [(0, .ref 0), (1, .int x1), (2, .long x2), (4, .int (x4 + (1 : Int32)))]) rfl ?_
  exact hk21 x1 x2 (x4 + (1 : Int32)) w hf
set_option maxHeartbeats 4000000 in
set_option maxRecDepth 100000 in
theorem Lb_X10_shams_21 {p : Program} {l : Launch} {e : Env} {s : State} {m : MethodId} {args : Array Value} {below : List Frame} {meth : Method} {c : Code} {D : va_G} {cA ad : Nat → Nat} {q : (Int32 × GW)} (C : gC p c cX10_shams meth m s args 5 (some .boolean) RX10 D cA ad shX) {k21 : Int32 → Int64 → Int32 → GW → Option (Int32 × GW)} (hk21 : ∀ (x1 : Int32) (x2 : Int64) (x4 : Int32) (w : GW), k21 x1 x2 x4 w = some q → gW p l e (gRm 3 176) s m args below meth c D cA ad shX 5 0 0 (gQ below D cA ad shX (some (.int q.1)) q.2 args s) 21 [(0, .ref 0), (1, .int x1), (2, .long x2), (4, .int x4)] [] w) (x1 : Int32) (x2 : Int64) (x4 : Int32) (w : GW) (hf : b_X10_shams_21 k21 x1 x2 x4 w = some q) : gW p l e (gRm 3 176) s m args below meth c D cA ad shX 5 0 0 (gQ below D cA ad shX (some (.int q.1)) q.2 args s) 21 [(0, .ref 0), (1, .int x1), (2, .long x2), (4, .int x4)] [] w := by
  unfold b_X10_shams_21 at hf
  refine g_iload C (gdec dt_X10_shams 13 rfl) rfl ?_
  refine g_iconst C (gdec dt_X10_shams 14 rfl) ic_1 ?_
  refine g_aload_n C (gdec dt_X10_shams 15 rfl) (i := 0) rfl rfl ?_
  refine g_getr C (j := 14) kf_X10_26 rfl rfl (gdec dt_X10_shams 16 rfl) ?_
  refine g_geti C kf_X10_190 rfl rfl (gdec dt_X10_shams 17 rfl) ?_
  refine g_ishl C (gdec dt_X10_shams 18 rfl) ?_
  refine g_icmp_ge C (tgt := 62) (gdec dt_X10_shams 19 rfl) (by decide) (fun hc5 => ?_) (fun hc5 => ?_)
  · have hf := (if_pos hc5).symm.trans hf
    refine g_aload_n C (gdec dt_X10_shams 33 rfl) (i := 0) rfl rfl ?_
    refine g_lload_n C (gdec dt_X10_shams 34 rfl) (i := 2) rfl rfl ?_
    refine g_bipush C (gdec dt_X10_shams 35 rfl) bc_16 ?_
    refine g_aload_n C (gdec dt_X10_shams 36 rfl) (i := 0) rfl rfl ?_
    refine g_getr C (j := 14) kf_X10_26 rfl rfl (gdec dt_X10_shams 37 rfl) ?_
    refine g_geti C kf_X10_190 rfl rfl (gdec dt_X10_shams 38 rfl) ?_
    obtain ⟨q6, hq6, hf⟩ := Option.bind_eq_some_iff.mp hf
    refine g_invSs e_nil [.int (16 : Int32), .int (w.1 14 5)] [.long x2, .ref 0] C (c_X10_power l D cA _ (gInj_sub em_e_nil_shX (gCi C)) (gsub w e_nil) (16 : Int32) (w.1 14 5) q6 hq6) em_e_nil_shX (by decide) rfl kT_X10_power kl_X10_431 kst_X10_power rfl rfl ⟨by decide, by decide⟩ gk0 (Nat.le_of_ble_eq_true rfl) (gdec dt_X10_shams 39 rfl) rfl (st2 := [.long q6, .long x2, .ref 0]) (w2 := w) rfl (gput_sub _ _) ?_
    obtain ⟨q7, hq7, hf⟩ := Option.bind_eq_some_iff.mp hf
    refine g_invV [.long x2, .long q6] [] C (c_X10_grantFraction l D cA _ (gCi C) w x2 q6 q7 hq7) kT_X10_grantFraction kl_X10_434 kim_X10_grantFraction kse_X10_grantFraction rfl rfl (i := 0) rfl rfl ⟨by decide, by decide⟩ gk0 (Nat.le_of_ble_eq_true rfl) (gdec dt_X10_shams 40 rfl) rfl (st2 := [.int q7.1]) rfl ?_
    obtain ⟨hb8, hf⟩ := gif hf
    cases hf
    exact g_zret C hb8 rfl (gdec dt_X10_shams 41 rfl)
  · have hf := (if_neg hc5).symm.trans hf
    refine g_iload C (gdec dt_X10_shams 20 rfl) rfl ?_
    obtain ⟨q9, hq9, hf⟩ := Option.bind_eq_some_iff.mp hf
    refine g_invSs e_nil [.int x4] [] C (c_J6_bitCount_0f7a4 l D cA _ (gInj_sub em_e_nil_shX (gCi C)) (gsub w e_nil) x4 q9 hq9) em_e_nil_shX (by decide) rfl kT_J6_bitCount_0f7a4 kl_X10_386 kst_J6_bitCount_0f7a4 rfl rfl ⟨by decide, by decide⟩ gk0 (Nat.le_of_ble_eq_true rfl) (gdec dt_X10_shams 21 rfl) rfl (st2 := [.int q9]) (w2 := w) rfl (gput_sub _ _) ?_
    refine g_iload_n C (gdec dt_X10_shams 22 rfl) (i := 1) rfl rfl ?_
    refine g_icmp_lt C (tgt := 56) (gdec dt_X10_shams 23 rfl) (by decide) (fun hc10 => ?_) (fun hc10 => ?_)
    · have hf := (if_pos hc10).symm.trans hf
      refine g_sub [0, 1, 2, 3] (lo2 := [(0, .ref 0), (1, .int x1), (2, .long x2), (4, .int x4)]) rfl ?_
      exact L_X10_shams_56 C hk21 x1 x2 x4 w hf
    · have hf := (if_neg hc10).symm.trans hf
      refine g_lload_n C (gdec dt_X10_shams 24 rfl) (i := 2) rfl rfl ?_
      refine g_aload_n C (gdec dt_X10_shams 25 rfl) (i := 0) rfl rfl ?_
      refine g_iload C (gdec dt_X10_shams 26 rfl) rfl ?_
      obtain ⟨q11, hq11, hf⟩ := Option.bind_eq_some_iff.mp hf
      refine g_invSs e_nil [.int x4] [.ref 0, .long x2] C (c_J6_bitCount_0f7a4 l D cA _ (gInj_sub em_e_nil_shX (gCi C)) (gsub w e_nil) x4 q11 hq11) em_e_nil_shX (by decide) rfl kT_J6_bitCount_0f7a4 kl_X10_386 kst_J6_bitCount_0f7a4 rfl rfl ⟨by decide, by decide⟩ gk0 (Nat.le_of_ble_eq_true rfl) (gdec dt_X10_shams 27 rfl) rfl (st2 := [.int q11, .ref 0, .long x2]) (w2 := w) rfl (gput_sub _ _) ?_
      obtain ⟨q12, hq12, hf⟩ := Option.bind_eq_some_iff.mp hf
      refine g_invV [.int q11] [.long x2] C (c_X10_waysOfShams l D cA _ (gCi C) w q11 q12 hq12) kT_X10_waysOfShams kl_X10_427 kim_X10_waysOfShams kse_X10_waysOfShams rfl rfl (i := 0) rfl rfl ⟨by decide, by decide⟩ gk0 (Nat.le_of_ble_eq_true rfl) (gdec dt_X10_shams 28 rfl) rfl (st2 := [.long q12, .long x2]) rfl ?_
      refine g_ladd C (gdec dt_X10_shams 29 rfl) ?_
      refine g_lstore_n C (gdec dt_X10_shams 30 rfl) (i := 2) rfl (by decide) (lo2 := [(2, .long (x2 + q12)), (0, .ref 0), (1, .int x1), (4, .int x4)]) rfl ?_
      refine g_sub [1, 2, 0, 3] (lo2 := [(0, .ref 0), (1, .int x1), (2, .long (x2 + q12)), (4, .int x4)]) rfl ?_
      exact L_X10_shams_56 C hk21 x1 (x2 + q12) x4 w hf
theorem L_X10_shams_21 {p : Program} {l : Launch} {e : Env} {s : State} {m : MethodId} {args : Array Value} {below : List Frame} {meth : Method} {c : Code} {D : va_G} {cA ad : Nat → Nat} {q : (Int32 × GW)} (C : gC p c cX10_shams meth m s args 5 (some .boolean) RX10 D cA ad shX) : ∀ (n : Nat) (x1 : Int32) (x2 : Int64) (x4 : Int32) (w : GW), f_X10_shams_21 n x1 x2 x4 w = some q → gW p l e (gRm 3 176) s m args below meth c D cA ad shX 5 0 0 (gQ below D cA ad shX (some (.int q.1)) q.2 args s) 21 [(0, .ref 0), (1, .int x1), (2, .long x2), (4, .int x4)] [] w := by
  intro n
  induction n with
  | zero => intro _ _ _ _ hf; cases hf
  | succ n ih => intro x1 x2 x4 w hf; exact Lb_X10_shams_21 C ih x1 x2 x4 w hf
set_option maxHeartbeats 4000000 in
set_option maxRecDepth 100000 in
theorem c_X10_shams (l : Launch) (D : va_G) (cA ad : Nat → Nat) (hin : gInj ad shX.length) (w : GW) (x1 : Int32) (q : (Int32 × GW)) (hf : F_X10_shams x1 w = some q) : gMet l yX10_shams cX10_shams 5 (some .boolean) 3 176 D cA ad shX [.ref 0, .int x1] w (some (.int q.1)) q.2 := by
  refine g_entry (by decide) hin (Nat.le_of_ble_eq_true rfl) ?_
  intro p e s m args below meth c C
  unfold F_X10_shams at hf
  show gW p l e (gRm 3 176) s m args below meth c D cA ad shX 5 0 0 (gQ below D cA ad shX (some (.int q.1)) q.2 args s) 0 [(0, .ref 0), (1, .int x1)] [] w
  refine g_iload_n C (gdec dt_X10_shams 0 rfl) (i := 1) rfl rfl ?_
  refine g_iconst C (gdec dt_X10_shams 1 rfl) ic_0 ?_
  refine g_bipush C (gdec dt_X10_shams 2 rfl) bc_6 ?_
  obtain ⟨q1, hq1, hf⟩ := Option.bind_eq_some_iff.mp hf
  refine g_invSs e_nil [.int x1, .int (0 : Int32), .int (6 : Int32)] [] C (c_X10_between l D cA _ (gInj_sub em_e_nil_shX (gCi C)) (gsub w e_nil) x1 (0 : Int32) (6 : Int32) q1 hq1) em_e_nil_shX (by decide) rfl kT_X10_between kl_X10_126 kst_X10_between rfl rfl ⟨by decide, by decide⟩ gk0 (Nat.le_of_ble_eq_true rfl) (gdec dt_X10_shams 3 rfl) rfl (st2 := [.int q1]) (w2 := w) rfl (gput_sub _ _) ?_
  refine g_if_ne C (tgt := 16) (gdec dt_X10_shams 4 rfl) (by decide) (fun hc2 => ?_) (fun hc2 => ?_)
  · have hf := (if_neg hc2).symm.trans hf
    refine g_lconst C (gdec dt_X10_shams 9 rfl) lc_0 ?_
    refine g_lstore_n C (gdec dt_X10_shams 10 rfl) (i := 2) rfl (by decide) (lo2 := [(2, .long (0 : Int64)), (0, .ref 0), (1, .int x1)]) rfl ?_
    refine g_iconst C (gdec dt_X10_shams 11 rfl) ic_0 ?_
    refine g_istore C (gdec dt_X10_shams 12 rfl) (by decide) (lo2 := [(4, .int (0 : Int32)), (2, .long (0 : Int64)), (0, .ref 0), (1, .int x1)]) rfl ?_
    refine g_sub [2, 3, 1, 0] (lo2 := [(0, .ref 0), (1, .int x1), (2, .long (0 : Int64)), (4, .int (0 : Int32))]) rfl ?_
    exact L_X10_shams_21 C FU x1 (0 : Int64) (0 : Int32) w hf
  · have hf := (if_pos hc2).symm.trans hf
    refine g_aload_n C (gdec dt_X10_shams 5 rfl) (i := 0) rfl rfl ?_
    refine g_iconst C (gdec dt_X10_shams 6 rfl) ic_1 ?_
    obtain ⟨q3, hq3, hf⟩ := Option.bind_eq_some_iff.mp hf
    refine g_invV [.int (1 : Int32)] [] C (c_X10_deny l D cA _ (gCi C) w (1 : Int32) q3 hq3) kT_X10_deny kl_X10_134 kim_X10_deny kse_X10_deny rfl rfl (i := 0) rfl rfl ⟨by decide, by decide⟩ gk0 (Nat.le_of_ble_eq_true rfl) (gdec dt_X10_shams 7 rfl) rfl (st2 := [.int q3.1]) rfl ?_
    obtain ⟨hb4, hf⟩ := gif hf
    cases hf
    exact g_zret C hb4 rfl (gdec dt_X10_shams 8 rfl)
set_option maxHeartbeats 4000000 in
set_option maxRecDepth 100000 in
theorem c_X10_share (l : Launch) (D : va_G) (cA ad : Nat → Nat) (hin : gInj ad shX.length) (w : GW) (x1 : Int32) (q : (Int32 × GW)) (hf : F_X10_share x1 w = some q) : gMet l yX10_share cX10_share 3 (some .boolean) 3 176 D cA ad shX [.ref 0, .int x1] w (some (.int q.1)) q.2 := by
  refine g_entry (by decide) hin (Nat.le_of_ble_eq_true rfl) ?_
  intro p e s m args below meth c C
  unfold F_X10_share at hf
  show gW p l e (gRm 3 176) s m args below meth c D cA ad shX 3 0 0 (gQ below D cA ad shX (some (.int q.1)) q.2 args s) 0 [(0, .ref 0), (1, .int x1)] [] w
  refine g_aload_n C (gdec dt_X10_share 0 rfl) (i := 0) rfl rfl ?_
  refine g_getr C (j := 14) kf_X10_26 rfl rfl (gdec dt_X10_share 1 rfl) ?_
  refine g_iload_n C (gdec dt_X10_share 2 rfl) (i := 1) rfl rfl ?_
  obtain ⟨q1, hq1, hf⟩ := Option.bind_eq_some_iff.mp hf
  refine g_invVs e_shX_shB_14 [.int x1] [] C (c_X0_hasClerk l D cA _ (gInj_sub em_e_shX_shB_14 (gCi C)) (gsub w e_shX_shB_14) x1 q1 hq1) em_e_shX_shB_14 (by decide) rfl kT_X0_hasClerk kl_X10_266 kim_X0_hasClerk kse_X0_hasClerk rfl rfl (i := 14) rfl rfl ⟨by decide, by decide⟩ gk0 (Nat.le_of_ble_eq_true rfl) (gdec dt_X10_share 3 rfl) rfl (st2 := [.int q1]) (w2 := w) rfl (gput_sub _ _) ?_
  refine g_if_ne C (tgt := 17) (gdec dt_X10_share 4 rfl) (by decide) (fun hc2 => ?_) (fun hc2 => ?_)
  · have hf := (if_neg hc2).symm.trans hf
    refine g_aload_n C (gdec dt_X10_share 9 rfl) (i := 0) rfl rfl ?_
    refine g_getr C (j := 14) kf_X10_26 rfl rfl (gdec dt_X10_share 10 rfl) ?_
    obtain ⟨q3, hq3, hf⟩ := Option.bind_eq_some_iff.mp hf
    refine g_invVs e_shX_shB_14 [] [] C (c_X0_greyOfAll l D cA _ (gInj_sub em_e_shX_shB_14 (gCi C)) (gsub w e_shX_shB_14)  q3 hq3) em_e_shX_shB_14 (by decide) rfl kT_X0_greyOfAll kl_X10_236 kim_X0_greyOfAll kse_X0_greyOfAll rfl rfl (i := 14) rfl rfl ⟨by decide, by decide⟩ gk0 (Nat.le_of_ble_eq_true rfl) (gdec dt_X10_share 11 rfl) rfl (st2 := [.int q3]) (w2 := w) rfl (gput_sub _ _) ?_
    refine g_istore_n C (gdec dt_X10_share 12 rfl) (i := 2) rfl (by decide) (lo2 := [(2, .int q3), (0, .ref 0), (1, .int x1)]) rfl ?_
    refine g_iload_n C (gdec dt_X10_share 13 rfl) (i := 2) rfl rfl ?_
    refine g_if_ne C (tgt := 36) (gdec dt_X10_share 14 rfl) (by decide) (fun hc4 => ?_) (fun hc4 => ?_)
    · have hf := (if_neg hc4).symm.trans hf
      refine g_aload_n C (gdec dt_X10_share 19 rfl) (i := 0) rfl rfl ?_
      refine g_aload_n C (gdec dt_X10_share 20 rfl) (i := 0) rfl rfl ?_
      refine g_getr C (j := 14) kf_X10_26 rfl rfl (gdec dt_X10_share 21 rfl) ?_
      refine g_getr C (j := 21) kf_X10_275 rfl rfl (gdec dt_X10_share 22 rfl) ?_
      refine g_iload_n C (gdec dt_X10_share 23 rfl) (i := 1) rfl rfl ?_
      obtain ⟨hg5, hf⟩ := gif hf
      refine g_iald C (i := 21) rfl hg5 rfl (gdec dt_X10_share 24 rfl) ?_
      refine g_i2l C (gdec dt_X10_share 25 rfl) ?_
      refine g_iload_n C (gdec dt_X10_share 26 rfl) (i := 2) rfl rfl ?_
      refine g_i2l C (gdec dt_X10_share 27 rfl) ?_
      obtain ⟨q6, hq6, hf⟩ := Option.bind_eq_some_iff.mp hf
      refine g_invV [.long (w.1 21 x1.toNatClampNeg).toInt64, .long q3.toInt64] [] C (c_X10_grantFraction l D cA _ (gCi C) w (w.1 21 x1.toNatClampNeg).toInt64 q3.toInt64 q6 hq6) kT_X10_grantFraction kl_X10_434 kim_X10_grantFraction kse_X10_grantFraction rfl rfl (i := 0) rfl rfl ⟨by decide, by decide⟩ gk0 (Nat.le_of_ble_eq_true rfl) (gdec dt_X10_share 28 rfl) rfl (st2 := [.int q6.1]) rfl ?_
      obtain ⟨hb7, hf⟩ := gif hf
      cases hf
      exact g_zret C hb7 rfl (gdec dt_X10_share 29 rfl)
    · have hf := (if_pos hc4).symm.trans hf
      refine g_aload_n C (gdec dt_X10_share 15 rfl) (i := 0) rfl rfl ?_
      refine g_bipush C (gdec dt_X10_share 16 rfl) bc_6 ?_
      obtain ⟨q8, hq8, hf⟩ := Option.bind_eq_some_iff.mp hf
      refine g_invV [.int (6 : Int32)] [] C (c_X10_deny l D cA _ (gCi C) w (6 : Int32) q8 hq8) kT_X10_deny kl_X10_134 kim_X10_deny kse_X10_deny rfl rfl (i := 0) rfl rfl ⟨by decide, by decide⟩ gk0 (Nat.le_of_ble_eq_true rfl) (gdec dt_X10_share 17 rfl) rfl (st2 := [.int q8.1]) rfl ?_
      obtain ⟨hb9, hf⟩ := gif hf
      cases hf
      exact g_zret C hb9 rfl (gdec dt_X10_share 18 rfl)
  · have hf := (if_pos hc2).symm.trans hf
    refine g_aload_n C (gdec dt_X10_share 5 rfl) (i := 0) rfl rfl ?_
    refine g_iconst C (gdec dt_X10_share 6 rfl) ic_1 ?_
    obtain ⟨q10, hq10, hf⟩ := Option.bind_eq_some_iff.mp hf
    refine g_invV [.int (1 : Int32)] [] C (c_X10_deny l D cA _ (gCi C) w (1 : Int32) q10 hq10) kT_X10_deny kl_X10_134 kim_X10_deny kse_X10_deny rfl rfl (i := 0) rfl rfl ⟨by decide, by decide⟩ gk0 (Nat.le_of_ble_eq_true rfl) (gdec dt_X10_share 7 rfl) rfl (st2 := [.int q10.1]) rfl ?_
    obtain ⟨hb11, hf⟩ := gif hf
    cases hf
    exact g_zret C hb11 rfl (gdec dt_X10_share 8 rfl)
set_option maxHeartbeats 4000000 in
set_option maxRecDepth 100000 in
theorem Lb_X10_copyGrey_61 {p : Program} {l : Launch} {e : Env} {s : State} {m : MethodId} {args : Array Value} {below : List Frame} {meth : Method} {c : Code} {D : va_G} {cA ad : Nat → Nat} {q : (Int32 × GW)} (C : gC p c cX10_copyGrey meth m s args 3 (some .int) RX10 D cA ad shX) {k61 : Int32 → Int32 → GW → Option (Int32 × GW)} (hk61 : ∀ (x1 : Int32) (x2 : Int32) (w : GW), k61 x1 x2 w = some q → gW p l e (gRm 5 209) s m args below meth c D cA ad shX 3 0 0 (gQ below D cA ad shX (some (.int q.1)) q.2 args s) 61 [(0, .ref 0), (1, .int x1), (2, .int x2)] [] w) (x1 : Int32) (x2 : Int32) (w : GW) (hf : b_X10_copyGrey_61 k61 x1 x2 w = some q) : gW p l e (gRm 5 209) s m args below meth c D cA ad shX 3 0 0 (gQ below D cA ad shX (some (.int q.1)) q.2 args s) 61 [(0, .ref 0), (1, .int x1), (2, .int x2)] [] w := by
  unfold b_X10_copyGrey_61 at hf
  refine g_iload_n C (gdec dt_X10_copyGrey 33 rfl) (i := 2) rfl rfl ?_
  refine g_aload_n C (gdec dt_X10_copyGrey 34 rfl) (i := 0) rfl rfl ?_
  refine g_getr C (j := 14) kf_X10_26 rfl rfl (gdec dt_X10_copyGrey 35 rfl) ?_
  refine g_geti C kf_X10_190 rfl rfl (gdec dt_X10_copyGrey 36 rfl) ?_
  refine g_icmp_ge C (tgt := 97) (gdec dt_X10_copyGrey 37 rfl) (by decide) (fun hc10 => ?_) (fun hc10 => ?_)
  · have hf := (if_pos hc10).symm.trans hf
    refine g_aload_n C (gdec dt_X10_copyGrey 51 rfl) (i := 0) rfl rfl ?_
    refine g_aload_n C (gdec dt_X10_copyGrey 52 rfl) (i := 0) rfl rfl ?_
    refine g_getr C (j := 14) kf_X10_26 rfl rfl (gdec dt_X10_copyGrey 53 rfl) ?_
    refine g_geti C kf_X10_190 rfl rfl (gdec dt_X10_copyGrey 54 rfl) ?_
    obtain ⟨q11, hq11, hf⟩ := Option.bind_eq_some_iff.mp hf
    refine g_invV [.int (w.1 14 5)] [] C (c_X10_answer l D cA _ (gCi C) w (w.1 14 5) q11 hq11) kT_X10_answer kl_X10_114 kim_X10_answer kse_X10_answer rfl rfl (i := 0) rfl rfl ⟨by decide, by decide⟩ gk0 (Nat.le_of_ble_eq_true rfl) (gdec dt_X10_copyGrey 55 rfl) rfl (st2 := [.int q11.1]) rfl ?_
    cases hf
    exact g_iret C rfl (gdec dt_X10_copyGrey 56 rfl)
  · have hf := (if_neg hc10).symm.trans hf
    refine g_aload_n C (gdec dt_X10_copyGrey 38 rfl) (i := 0) rfl rfl ?_
    refine g_getr C (j := 1) kf_X10_12 rfl rfl (gdec dt_X10_copyGrey 39 rfl) ?_
    refine g_iload_n C (gdec dt_X10_copyGrey 40 rfl) (i := 1) rfl rfl ?_
    refine g_iload_n C (gdec dt_X10_copyGrey 41 rfl) (i := 2) rfl rfl ?_
    refine g_aload_n C (gdec dt_X10_copyGrey 42 rfl) (i := 0) rfl rfl ?_
    refine g_getr C (j := 14) kf_X10_26 rfl rfl (gdec dt_X10_copyGrey 43 rfl) ?_
    refine g_getr C (j := 21) kf_X10_275 rfl rfl (gdec dt_X10_copyGrey 44 rfl) ?_
    refine g_iload_n C (gdec dt_X10_copyGrey 45 rfl) (i := 2) rfl rfl ?_
    obtain ⟨hg12, hf⟩ := gif hf
    refine g_iald C (i := 21) rfl hg12 rfl (gdec dt_X10_copyGrey 46 rfl) ?_
    refine g_i2l C (gdec dt_X10_copyGrey 47 rfl) ?_
    obtain ⟨q13, hq13, hf⟩ := Option.bind_eq_some_iff.mp hf
    refine g_invVs e_shX_shTr_1 [.int x1, .int x2, .long (w.1 21 x2.toNatClampNeg).toInt64] [] C (c_X9_put l D cA _ (gInj_sub em_e_shX_shTr_1 (gCi C)) (gsub w e_shX_shTr_1) x1 x2 (w.1 21 x2.toNatClampNeg).toInt64 q13 hq13) em_e_shX_shTr_1 (by decide) rfl kT_X9_put kl_X10_145 kim_X9_put kse_X9_put rfl rfl (i := 1) rfl rfl ⟨by decide, by decide⟩ gk0 (Nat.le_of_ble_eq_true rfl) (gdec dt_X10_copyGrey 48 rfl) rfl (st2 := []) (w2 := (gput w e_shX_shTr_1 q13)) rfl rfl ?_
    refine g_iinc C (gdec dt_X10_copyGrey 49 rfl) (kk := 2) rfl (v := (x2 + (1 : Int32))) rfl (by decide) (lo2 := [(2, .int (x2 + (1 : Int32))), (0, .ref 0), (1, .int x1)]) rfl ?_
    refine g_goto C (tgt := 61) (gdec dt_X10_copyGrey 50 rfl) (by decide) ?_
    refine g_sub [1, 2, 0] (lo2 := [(0, .ref 0), (1, .int x1), (2, .int (x2 + (1 : Int32)))]) rfl ?_
    exact hk61 x1 (x2 + (1 : Int32)) (gput w e_shX_shTr_1 q13) hf
theorem L_X10_copyGrey_61 {p : Program} {l : Launch} {e : Env} {s : State} {m : MethodId} {args : Array Value} {below : List Frame} {meth : Method} {c : Code} {D : va_G} {cA ad : Nat → Nat} {q : (Int32 × GW)} (C : gC p c cX10_copyGrey meth m s args 3 (some .int) RX10 D cA ad shX) : ∀ (n : Nat) (x1 : Int32) (x2 : Int32) (w : GW), f_X10_copyGrey_61 n x1 x2 w = some q → gW p l e (gRm 5 209) s m args below meth c D cA ad shX 3 0 0 (gQ below D cA ad shX (some (.int q.1)) q.2 args s) 61 [(0, .ref 0), (1, .int x1), (2, .int x2)] [] w := by
  intro n
  induction n with
  | zero => intro _ _ _ hf; cases hf
  | succ n ih => intro x1 x2 w hf; exact Lb_X10_copyGrey_61 C ih x1 x2 w hf
set_option maxHeartbeats 4000000 in
set_option maxRecDepth 100000 in
theorem c_X10_copyGrey (l : Launch) (D : va_G) (cA ad : Nat → Nat) (hin : gInj ad shX.length) (w : GW) (x1 : Int32) (q : (Int32 × GW)) (hf : F_X10_copyGrey x1 w = some q) : gMet l yX10_copyGrey cX10_copyGrey 3 (some .int) 5 209 D cA ad shX [.ref 0, .int x1] w (some (.int q.1)) q.2 := by
  refine g_entry (by decide) hin (Nat.le_of_ble_eq_true rfl) ?_
  intro p e s m args below meth c C
  unfold F_X10_copyGrey at hf
  show gW p l e (gRm 5 209) s m args below meth c D cA ad shX 3 0 0 (gQ below D cA ad shX (some (.int q.1)) q.2 args s) 0 [(0, .ref 0), (1, .int x1)] [] w
  refine g_aload_n C (gdec dt_X10_copyGrey 0 rfl) (i := 0) rfl rfl ?_
  refine g_getr C (j := 1) kf_X10_12 rfl rfl (gdec dt_X10_copyGrey 1 rfl) ?_
  refine g_iload_n C (gdec dt_X10_copyGrey 2 rfl) (i := 1) rfl rfl ?_
  obtain ⟨q1, hq1, hf⟩ := Option.bind_eq_some_iff.mp hf
  refine g_invVs e_shX_shTr_1 [.int x1] [] C (c_X9_isTray l D cA _ (gInj_sub em_e_shX_shTr_1 (gCi C)) (gsub w e_shX_shTr_1) x1 q1 hq1) em_e_shX_shTr_1 (by decide) rfl kT_X9_isTray kl_X10_130 kim_X9_isTray kse_X9_isTray rfl rfl (i := 1) rfl rfl ⟨by decide, by decide⟩ gk0 (Nat.le_of_ble_eq_true rfl) (gdec dt_X10_copyGrey 3 rfl) rfl (st2 := [.int q1]) (w2 := w) rfl (gput_sub _ _) ?_
  refine g_if_ne C (tgt := 17) (gdec dt_X10_copyGrey 4 rfl) (by decide) (fun hc2 => ?_) (fun hc2 => ?_)
  · have hf := (if_neg hc2).symm.trans hf
    refine g_aload_n C (gdec dt_X10_copyGrey 9 rfl) (i := 0) rfl rfl ?_
    refine g_getr C (j := 1) kf_X10_12 rfl rfl (gdec dt_X10_copyGrey 10 rfl) ?_
    refine g_iload_n C (gdec dt_X10_copyGrey 11 rfl) (i := 1) rfl rfl ?_
    obtain ⟨q3, hq3, hf⟩ := Option.bind_eq_some_iff.mp hf
    refine g_invVs e_shX_shTr_1 [.int x1] [] C (c_X9_isThere l D cA _ (gInj_sub em_e_shX_shTr_1 (gCi C)) (gsub w e_shX_shTr_1) x1 q3 hq3) em_e_shX_shTr_1 (by decide) rfl kT_X9_isThere kl_X10_153 kim_X9_isThere kse_X9_isThere rfl rfl (i := 1) rfl rfl ⟨by decide, by decide⟩ gk0 (Nat.le_of_ble_eq_true rfl) (gdec dt_X10_copyGrey 12 rfl) rfl (st2 := [.int q3]) (w2 := w) rfl (gput_sub _ _) ?_
    refine g_if_ne C (tgt := 34) (gdec dt_X10_copyGrey 13 rfl) (by decide) (fun hc4 => ?_) (fun hc4 => ?_)
    · have hf := (if_neg hc4).symm.trans hf
      refine g_aload_n C (gdec dt_X10_copyGrey 18 rfl) (i := 0) rfl rfl ?_
      refine g_getr C (j := 1) kf_X10_12 rfl rfl (gdec dt_X10_copyGrey 19 rfl) ?_
      refine g_iload_n C (gdec dt_X10_copyGrey 20 rfl) (i := 1) rfl rfl ?_
      refine g_iconst C (gdec dt_X10_copyGrey 21 rfl) ic_0 ?_
      refine g_aload_n C (gdec dt_X10_copyGrey 22 rfl) (i := 0) rfl rfl ?_
      refine g_getr C (j := 14) kf_X10_26 rfl rfl (gdec dt_X10_copyGrey 23 rfl) ?_
      refine g_geti C kf_X10_190 rfl rfl (gdec dt_X10_copyGrey 24 rfl) ?_
      obtain ⟨q5, hq5, hf⟩ := Option.bind_eq_some_iff.mp hf
      refine g_invVs e_shX_shTr_1 [.int x1, .int (0 : Int32), .int (w.1 14 5)] [] C (c_X9_hasFrom l D cA _ (gInj_sub em_e_shX_shTr_1 (gCi C)) (gsub w e_shX_shTr_1) x1 (0 : Int32) (w.1 14 5) q5 hq5) em_e_shX_shTr_1 (by decide) rfl kT_X9_hasFrom kl_X10_160 kim_X9_hasFrom kse_X9_hasFrom rfl rfl (i := 1) rfl rfl ⟨by decide, by decide⟩ gk0 (Nat.le_of_ble_eq_true rfl) (gdec dt_X10_copyGrey 25 rfl) rfl (st2 := [.int q5]) (w2 := w) rfl (gput_sub _ _) ?_
      refine g_if_ne C (tgt := 59) (gdec dt_X10_copyGrey 26 rfl) (by decide) (fun hc6 => ?_) (fun hc6 => ?_)
      · have hf := (if_neg hc6).symm.trans hf
        refine g_iconst C (gdec dt_X10_copyGrey 31 rfl) ic_0 ?_
        refine g_istore_n C (gdec dt_X10_copyGrey 32 rfl) (i := 2) rfl (by decide) (lo2 := [(2, .int (0 : Int32)), (0, .ref 0), (1, .int x1)]) rfl ?_
        refine g_sub [1, 2, 0] (lo2 := [(0, .ref 0), (1, .int x1), (2, .int (0 : Int32))]) rfl ?_
        exact L_X10_copyGrey_61 C FU x1 (0 : Int32) w hf
      · have hf := (if_pos hc6).symm.trans hf
        refine g_aload_n C (gdec dt_X10_copyGrey 27 rfl) (i := 0) rfl rfl ?_
        refine g_iconst C (gdec dt_X10_copyGrey 28 rfl) ic_3 ?_
        obtain ⟨q7, hq7, hf⟩ := Option.bind_eq_some_iff.mp hf
        refine g_invV [.int (3 : Int32)] [] C (c_X10_refuse l D cA _ (gCi C) w (3 : Int32) q7 hq7) kT_X10_refuse kl_X10_110 kim_X10_refuse kse_X10_refuse rfl rfl (i := 0) rfl rfl ⟨by decide, by decide⟩ gk0 (Nat.le_of_ble_eq_true rfl) (gdec dt_X10_copyGrey 29 rfl) rfl (st2 := [.int q7.1]) rfl ?_
        cases hf
        exact g_iret C rfl (gdec dt_X10_copyGrey 30 rfl)
    · have hf := (if_pos hc4).symm.trans hf
      refine g_aload_n C (gdec dt_X10_copyGrey 14 rfl) (i := 0) rfl rfl ?_
      refine g_iconst C (gdec dt_X10_copyGrey 15 rfl) ic_2 ?_
      obtain ⟨q8, hq8, hf⟩ := Option.bind_eq_some_iff.mp hf
      refine g_invV [.int (2 : Int32)] [] C (c_X10_refuse l D cA _ (gCi C) w (2 : Int32) q8 hq8) kT_X10_refuse kl_X10_110 kim_X10_refuse kse_X10_refuse rfl rfl (i := 0) rfl rfl ⟨by decide, by decide⟩ gk0 (Nat.le_of_ble_eq_true rfl) (gdec dt_X10_copyGrey 16 rfl) rfl (st2 := [.int q8.1]) rfl ?_
      cases hf
      exact g_iret C rfl (gdec dt_X10_copyGrey 17 rfl)
  · have hf := (if_pos hc2).symm.trans hf
    refine g_aload_n C (gdec dt_X10_copyGrey 5 rfl) (i := 0) rfl rfl ?_
    refine g_iconst C (gdec dt_X10_copyGrey 6 rfl) ic_1 ?_
    obtain ⟨q9, hq9, hf⟩ := Option.bind_eq_some_iff.mp hf
    refine g_invV [.int (1 : Int32)] [] C (c_X10_refuse l D cA _ (gCi C) w (1 : Int32) q9 hq9) kT_X10_refuse kl_X10_110 kim_X10_refuse kse_X10_refuse rfl rfl (i := 0) rfl rfl ⟨by decide, by decide⟩ gk0 (Nat.le_of_ble_eq_true rfl) (gdec dt_X10_copyGrey 7 rfl) rfl (st2 := [.int q9.1]) rfl ?_
    cases hf
    exact g_iret C rfl (gdec dt_X10_copyGrey 8 rfl)
set_option maxHeartbeats 4000000 in
set_option maxRecDepth 100000 in
theorem c_X10_live (l : Launch) (D : va_G) (cA ad : Nat → Nat) (hin : gInj ad shX.length) (w : GW) (x1 : Int32) (q : (Int32 × GW)) (hf : F_X10_live x1 w = some q) : gMet l yX10_live cX10_live 2 (some .int) 8 288 D cA ad shX [.ref 0, .int x1] w (some (.int q.1)) q.2 := by
  refine g_entry (by decide) hin (Nat.le_of_ble_eq_true rfl) ?_
  intro p e s m args below meth c C
  unfold F_X10_live at hf
  show gW p l e (gRm 8 288) s m args below meth c D cA ad shX 2 0 0 (gQ below D cA ad shX (some (.int q.1)) q.2 args s) 0 [(0, .ref 0), (1, .int x1)] [] w
  refine g_iload_n C (gdec dt_X10_live 0 rfl) (i := 1) rfl rfl ?_
  refine g_iconst C (gdec dt_X10_live 1 rfl) ic_0 ?_
  refine g_sipush C (gdec dt_X10_live 2 rfl) sc_9999 ?_
  obtain ⟨q1, hq1, hf⟩ := Option.bind_eq_some_iff.mp hf
  refine g_invSs e_nil [.int x1, .int (0 : Int32), .int (9999 : Int32)] [] C (c_X10_between l D cA _ (gInj_sub em_e_nil_shX (gCi C)) (gsub w e_nil) x1 (0 : Int32) (9999 : Int32) q1 hq1) em_e_nil_shX (by decide) rfl kT_X10_between kl_X10_126 kst_X10_between rfl rfl ⟨by decide, by decide⟩ gk0 (Nat.le_of_ble_eq_true rfl) (gdec dt_X10_live 3 rfl) rfl (st2 := [.int q1]) (w2 := w) rfl (gput_sub _ _) ?_
  refine g_if_ne C (tgt := 17) (gdec dt_X10_live 4 rfl) (by decide) (fun hc2 => ?_) (fun hc2 => ?_)
  · have hf := (if_neg hc2).symm.trans hf
    refine g_aload_n C (gdec dt_X10_live 9 rfl) (i := 0) rfl rfl ?_
    refine g_getr C (j := 40) kf_X10_36 rfl rfl (gdec dt_X10_live 10 rfl) ?_
    refine g_geti C kf_X10_438 rfl rfl (gdec dt_X10_live 11 rfl) ?_
    refine g_if_ne C (tgt := 34) (gdec dt_X10_live 12 rfl) (by decide) (fun hc3 => ?_) (fun hc3 => ?_)
    · have hf := (if_neg hc3).symm.trans hf
      refine g_aload_n C (gdec dt_X10_live 17 rfl) (i := 0) rfl rfl ?_
      refine g_getr C (j := 126) kf_X10_70 rfl rfl (gdec dt_X10_live 18 rfl) ?_
      refine g_aload_n C (gdec dt_X10_live 19 rfl) (i := 0) rfl rfl ?_
      refine g_getr C (j := 14) kf_X10_26 rfl rfl (gdec dt_X10_live 20 rfl) ?_
      refine g_aload_n C (gdec dt_X10_live 21 rfl) (i := 0) rfl rfl ?_
      refine g_getr C (j := 40) kf_X10_36 rfl rfl (gdec dt_X10_live 22 rfl) ?_
      refine g_iload_n C (gdec dt_X10_live 23 rfl) (i := 1) rfl rfl ?_
      obtain ⟨q4, hq4, hf⟩ := Option.bind_eq_some_iff.mp hf
      refine g_invVs e_shX_shL_126_14_40 [.ref 14, .ref 40, .int x1] [] C (c_X3_goThrough l D cA _ (gInj_sub em_e_shX_shL_126_14_40 (gCi C)) (gsub w e_shX_shL_126_14_40) x1 q4 hq4) em_e_shX_shL_126_14_40 (by decide) rfl kT_X3_goThrough kl_X10_440 kim_X3_goThrough kse_X3_goThrough rfl rfl (i := 126) rfl rfl ⟨by decide, by decide⟩ gk0 (Nat.le_of_ble_eq_true rfl) (gdec dt_X10_live 24 rfl) rfl (st2 := []) (w2 := (gput w e_shX_shL_126_14_40 q4)) rfl rfl ?_
      refine g_aload_n C (gdec dt_X10_live 25 rfl) (i := 0) rfl rfl ?_
      refine g_iconst C (gdec dt_X10_live 26 rfl) ic_1 ?_
      refine g_putz C kf_X10_95 rfl rfl (Or.inr rfl) (gdec dt_X10_live 27 rfl) ?_
      refine g_aload_n C (gdec dt_X10_live 28 rfl) (i := 0) rfl rfl ?_
      refine g_aload_n C (gdec dt_X10_live 29 rfl) (i := 0) rfl rfl ?_
      refine g_getr C (j := 126) kf_X10_70 rfl rfl (gdec dt_X10_live 30 rfl) ?_
      refine g_getiv C kf_X10_444 rfl rfl (gdec dt_X10_live 31 rfl) (v := (q4.1 0 0)) rfl ?_
      obtain ⟨q5, hq5, hf⟩ := Option.bind_eq_some_iff.mp hf
      refine g_invV [.int (q4.1 0 0)] [] C (c_X10_answer l D cA _ (gCi C) (gI (gput w e_shX_shL_126_14_40 q4) 0 14 (1 : Int32)) (q4.1 0 0) q5 hq5) kT_X10_answer kl_X10_114 kim_X10_answer kse_X10_answer rfl rfl (i := 0) rfl rfl ⟨by decide, by decide⟩ gk0 (Nat.le_of_ble_eq_true rfl) (gdec dt_X10_live 32 rfl) rfl (st2 := [.int q5.1]) rfl ?_
      cases hf
      exact g_iret C rfl (gdec dt_X10_live 33 rfl)
    · have hf := (if_pos hc3).symm.trans hf
      refine g_aload_n C (gdec dt_X10_live 13 rfl) (i := 0) rfl rfl ?_
      refine g_bipush C (gdec dt_X10_live 14 rfl) bc_6 ?_
      obtain ⟨q6, hq6, hf⟩ := Option.bind_eq_some_iff.mp hf
      refine g_invV [.int (6 : Int32)] [] C (c_X10_refuse l D cA _ (gCi C) w (6 : Int32) q6 hq6) kT_X10_refuse kl_X10_110 kim_X10_refuse kse_X10_refuse rfl rfl (i := 0) rfl rfl ⟨by decide, by decide⟩ gk0 (Nat.le_of_ble_eq_true rfl) (gdec dt_X10_live 15 rfl) rfl (st2 := [.int q6.1]) rfl ?_
      cases hf
      exact g_iret C rfl (gdec dt_X10_live 16 rfl)
  · have hf := (if_pos hc2).symm.trans hf
    refine g_aload_n C (gdec dt_X10_live 5 rfl) (i := 0) rfl rfl ?_
    refine g_iconst C (gdec dt_X10_live 6 rfl) ic_1 ?_
    obtain ⟨q7, hq7, hf⟩ := Option.bind_eq_some_iff.mp hf
    refine g_invV [.int (1 : Int32)] [] C (c_X10_refuse l D cA _ (gCi C) w (1 : Int32) q7 hq7) kT_X10_refuse kl_X10_110 kim_X10_refuse kse_X10_refuse rfl rfl (i := 0) rfl rfl ⟨by decide, by decide⟩ gk0 (Nat.le_of_ble_eq_true rfl) (gdec dt_X10_live 7 rfl) rfl (st2 := [.int q7.1]) rfl ?_
    cases hf
    exact g_iret C rfl (gdec dt_X10_live 8 rfl)
set_option maxHeartbeats 4000000 in
set_option maxRecDepth 100000 in
theorem L_X10_lived_124 {p : Program} {l : Launch} {e : Env} {s : State} {m : MethodId} {args : Array Value} {below : List Frame} {meth : Method} {c : Code} {D : va_G} {cA ad : Nat → Nat} {q : (Int32 × GW)} (C : gC p c cX10_lived meth m s args 2 (some .int) RX10 D cA ad shX) (s0 : Int32) (w : GW) (hf : f_X10_lived_124 s0 w = some q) : gW p l e (gRm 2 142) s m args below meth c D cA ad shX 2 0 0 (gQ below D cA ad shX (some (.int q.1)) q.2 args s) 124 [] [.int s0, .ref 0] w := by
  unfold f_X10_lived_124 at hf
  obtain ⟨q15, hq15, hf⟩ := Option.bind_eq_some_iff.mp hf
  refine g_invV [.int s0] [] C (c_X10_answer l D cA _ (gCi C) w s0 q15 hq15) kT_X10_answer kl_X10_114 kim_X10_answer kse_X10_answer rfl rfl (i := 0) rfl rfl ⟨by decide, by decide⟩ gk0 (Nat.le_of_ble_eq_true rfl) (gdec dt_X10_lived 50 rfl) rfl (st2 := [.int q15.1]) rfl ?_
  cases hf
  exact g_iret C rfl (gdec dt_X10_lived 51 rfl)
set_option maxHeartbeats 4000000 in
set_option maxRecDepth 100000 in
theorem c_X10_lived (l : Launch) (D : va_G) (cA ad : Nat → Nat) (hin : gInj ad shX.length) (w : GW) (x1 : Int32) (q : (Int32 × GW)) (hf : F_X10_lived x1 w = some q) : gMet l yX10_lived cX10_lived 2 (some .int) 2 142 D cA ad shX [.ref 0, .int x1] w (some (.int q.1)) q.2 := by
  refine g_entry (by decide) hin (Nat.le_of_ble_eq_true rfl) ?_
  intro p e s m args below meth c C
  unfold F_X10_lived at hf
  show gW p l e (gRm 2 142) s m args below meth c D cA ad shX 2 0 0 (gQ below D cA ad shX (some (.int q.1)) q.2 args s) 0 [(0, .ref 0), (1, .int x1)] [] w
  refine g_iload_n C (gdec dt_X10_lived 0 rfl) (i := 1) rfl rfl ?_
  refine g_iconst C (gdec dt_X10_lived 1 rfl) ic_0 ?_
  refine g_iconst C (gdec dt_X10_lived 2 rfl) ic_4 ?_
  obtain ⟨q1, hq1, hf⟩ := Option.bind_eq_some_iff.mp hf
  refine g_invSs e_nil [.int x1, .int (0 : Int32), .int (4 : Int32)] [] C (c_X10_between l D cA _ (gInj_sub em_e_nil_shX (gCi C)) (gsub w e_nil) x1 (0 : Int32) (4 : Int32) q1 hq1) em_e_nil_shX (by decide) rfl kT_X10_between kl_X10_126 kst_X10_between rfl rfl ⟨by decide, by decide⟩ gk0 (Nat.le_of_ble_eq_true rfl) (gdec dt_X10_lived 3 rfl) rfl (st2 := [.int q1]) (w2 := w) rfl (gput_sub _ _) ?_
  refine g_if_ne C (tgt := 15) (gdec dt_X10_lived 4 rfl) (by decide) (fun hc2 => ?_) (fun hc2 => ?_)
  · have hf := (if_neg hc2).symm.trans hf
    refine g_aload_n C (gdec dt_X10_lived 9 rfl) (i := 0) rfl rfl ?_
    refine g_geti C kf_X10_95 rfl rfl (gdec dt_X10_lived 10 rfl) ?_
    refine g_if_ne C (tgt := 29) (gdec dt_X10_lived 11 rfl) (by decide) (fun hc3 => ?_) (fun hc3 => ?_)
    · have hf := (if_neg hc3).symm.trans hf
      refine g_iload_n C (gdec dt_X10_lived 16 rfl) (i := 1) rfl rfl ?_
      by_cases hc4 : x1 = (0 : Int32)
      · have hf := (if_pos hc4).symm.trans hf
        refine g_tableIn C (tgt := 60) (off := 30) (gdec dt_X10_lived 17 rfl) (by rw [hc4]; decide) (by rw [hc4]; decide) (by rw [hc4]; decide) (by decide) ?_
        refine g_aload_n C (gdec dt_X10_lived 18 rfl) (i := 0) rfl rfl ?_
        refine g_aload_n C (gdec dt_X10_lived 19 rfl) (i := 0) rfl rfl ?_
        refine g_getr C (j := 126) kf_X10_70 rfl rfl (gdec dt_X10_lived 20 rfl) ?_
        refine g_geti C kf_X10_445 rfl rfl (gdec dt_X10_lived 21 rfl) ?_
        obtain ⟨q5, hq5, hf⟩ := Option.bind_eq_some_iff.mp hf
        refine g_invV [.int (w.1 126 1)] [] C (c_X10_answer l D cA _ (gCi C) w (w.1 126 1) q5 hq5) kT_X10_answer kl_X10_114 kim_X10_answer kse_X10_answer rfl rfl (i := 0) rfl rfl ⟨by decide, by decide⟩ gk0 (Nat.le_of_ble_eq_true rfl) (gdec dt_X10_lived 22 rfl) rfl (st2 := [.int q5.1]) rfl ?_
        cases hf
        exact g_iret C rfl (gdec dt_X10_lived 23 rfl)
      replace hf := (if_neg hc4).symm.trans hf
      by_cases hc6 : x1 = (1 : Int32)
      · have hf := (if_pos hc6).symm.trans hf
        refine g_tableIn C (tgt := 72) (off := 42) (gdec dt_X10_lived 17 rfl) (by rw [hc6]; decide) (by rw [hc6]; decide) (by rw [hc6]; decide) (by decide) ?_
        refine g_aload_n C (gdec dt_X10_lived 24 rfl) (i := 0) rfl rfl ?_
        refine g_aload_n C (gdec dt_X10_lived 25 rfl) (i := 0) rfl rfl ?_
        refine g_getr C (j := 126) kf_X10_70 rfl rfl (gdec dt_X10_lived 26 rfl) ?_
        refine g_geti C kf_X10_448 rfl rfl (gdec dt_X10_lived 27 rfl) ?_
        obtain ⟨q7, hq7, hf⟩ := Option.bind_eq_some_iff.mp hf
        refine g_invV [.int (w.1 126 2)] [] C (c_X10_answer l D cA _ (gCi C) w (w.1 126 2) q7 hq7) kT_X10_answer kl_X10_114 kim_X10_answer kse_X10_answer rfl rfl (i := 0) rfl rfl ⟨by decide, by decide⟩ gk0 (Nat.le_of_ble_eq_true rfl) (gdec dt_X10_lived 28 rfl) rfl (st2 := [.int q7.1]) rfl ?_
        cases hf
        exact g_iret C rfl (gdec dt_X10_lived 29 rfl)
      replace hf := (if_neg hc6).symm.trans hf
      by_cases hc8 : x1 = (2 : Int32)
      · have hf := (if_pos hc8).symm.trans hf
        refine g_tableIn C (tgt := 84) (off := 54) (gdec dt_X10_lived 17 rfl) (by rw [hc8]; decide) (by rw [hc8]; decide) (by rw [hc8]; decide) (by decide) ?_
        refine g_aload_n C (gdec dt_X10_lived 30 rfl) (i := 0) rfl rfl ?_
        refine g_aload_n C (gdec dt_X10_lived 31 rfl) (i := 0) rfl rfl ?_
        refine g_getr C (j := 126) kf_X10_70 rfl rfl (gdec dt_X10_lived 32 rfl) ?_
        refine g_geti C kf_X10_451 rfl rfl (gdec dt_X10_lived 33 rfl) ?_
        obtain ⟨q9, hq9, hf⟩ := Option.bind_eq_some_iff.mp hf
        refine g_invV [.int (w.1 126 3)] [] C (c_X10_answer l D cA _ (gCi C) w (w.1 126 3) q9 hq9) kT_X10_answer kl_X10_114 kim_X10_answer kse_X10_answer rfl rfl (i := 0) rfl rfl ⟨by decide, by decide⟩ gk0 (Nat.le_of_ble_eq_true rfl) (gdec dt_X10_lived 34 rfl) rfl (st2 := [.int q9.1]) rfl ?_
        cases hf
        exact g_iret C rfl (gdec dt_X10_lived 35 rfl)
      replace hf := (if_neg hc8).symm.trans hf
      by_cases hc10 : x1 = (3 : Int32)
      · have hf := (if_pos hc10).symm.trans hf
        refine g_tableIn C (tgt := 96) (off := 66) (gdec dt_X10_lived 17 rfl) (by rw [hc10]; decide) (by rw [hc10]; decide) (by rw [hc10]; decide) (by decide) ?_
        refine g_aload_n C (gdec dt_X10_lived 36 rfl) (i := 0) rfl rfl ?_
        refine g_aload_n C (gdec dt_X10_lived 37 rfl) (i := 0) rfl rfl ?_
        refine g_getr C (j := 126) kf_X10_70 rfl rfl (gdec dt_X10_lived 38 rfl) ?_
        refine g_geti C kf_X10_454 rfl rfl (gdec dt_X10_lived 39 rfl) ?_
        obtain ⟨q11, hq11, hf⟩ := Option.bind_eq_some_iff.mp hf
        refine g_invV [.int (w.1 126 4)] [] C (c_X10_answer l D cA _ (gCi C) w (w.1 126 4) q11 hq11) kT_X10_answer kl_X10_114 kim_X10_answer kse_X10_answer rfl rfl (i := 0) rfl rfl ⟨by decide, by decide⟩ gk0 (Nat.le_of_ble_eq_true rfl) (gdec dt_X10_lived 40 rfl) rfl (st2 := [.int q11.1]) rfl ?_
        cases hf
        exact g_iret C rfl (gdec dt_X10_lived 41 rfl)
      replace hf := (if_neg hc10).symm.trans hf
      refine g_tableOut C (tgt := 108) (gdec dt_X10_lived 17 rfl) (gtsw_out (fun j hj => ?_)) (by decide) ?_
      · match j, hj with
        | 0, _ => exact lv_neT hc4 (by decide)
        | 1, _ => exact lv_neT hc6 (by decide)
        | 2, _ => exact lv_neT hc8 (by decide)
        | 3, _ => exact lv_neT hc10 (by decide)
        | j + 4, hj => exact absurd hj (by simp)
      refine g_aload_n C (gdec dt_X10_lived 42 rfl) (i := 0) rfl rfl ?_
      refine g_aload_n C (gdec dt_X10_lived 43 rfl) (i := 0) rfl rfl ?_
      refine g_getr C (j := 126) kf_X10_70 rfl rfl (gdec dt_X10_lived 44 rfl) ?_
      refine g_geti C kf_X10_457 rfl rfl (gdec dt_X10_lived 45 rfl) ?_
      refine g_if_eq C (tgt := 123) (gdec dt_X10_lived 46 rfl) (by decide) (fun hc12 => ?_) (fun hc12 => ?_)
      · have hf := (if_pos hc12).symm.trans hf
        refine g_iconst C (gdec dt_X10_lived 49 rfl) ic_0 ?_
        refine g_sub [] (lo2 := []) rfl ?_
        exact L_X10_lived_124 C (0 : Int32) w hf
      · have hf := (if_neg hc12).symm.trans hf
        refine g_iconst C (gdec dt_X10_lived 47 rfl) ic_1 ?_
        refine g_goto C (tgt := 124) (gdec dt_X10_lived 48 rfl) (by decide) ?_
        refine g_sub [] (lo2 := []) rfl ?_
        exact L_X10_lived_124 C (1 : Int32) w hf
    · have hf := (if_pos hc3).symm.trans hf
      refine g_aload_n C (gdec dt_X10_lived 12 rfl) (i := 0) rfl rfl ?_
      refine g_bipush C (gdec dt_X10_lived 13 rfl) bc_6 ?_
      obtain ⟨q13, hq13, hf⟩ := Option.bind_eq_some_iff.mp hf
      refine g_invV [.int (6 : Int32)] [] C (c_X10_refuse l D cA _ (gCi C) w (6 : Int32) q13 hq13) kT_X10_refuse kl_X10_110 kim_X10_refuse kse_X10_refuse rfl rfl (i := 0) rfl rfl ⟨by decide, by decide⟩ gk0 (Nat.le_of_ble_eq_true rfl) (gdec dt_X10_lived 14 rfl) rfl (st2 := [.int q13.1]) rfl ?_
      cases hf
      exact g_iret C rfl (gdec dt_X10_lived 15 rfl)
  · have hf := (if_pos hc2).symm.trans hf
    refine g_aload_n C (gdec dt_X10_lived 5 rfl) (i := 0) rfl rfl ?_
    refine g_iconst C (gdec dt_X10_lived 6 rfl) ic_1 ?_
    obtain ⟨q14, hq14, hf⟩ := Option.bind_eq_some_iff.mp hf
    refine g_invV [.int (1 : Int32)] [] C (c_X10_refuse l D cA _ (gCi C) w (1 : Int32) q14 hq14) kT_X10_refuse kl_X10_110 kim_X10_refuse kse_X10_refuse rfl rfl (i := 0) rfl rfl ⟨by decide, by decide⟩ gk0 (Nat.le_of_ble_eq_true rfl) (gdec dt_X10_lived 7 rfl) rfl (st2 := [.int q14.1]) rfl ?_
    cases hf
    exact g_iret C rfl (gdec dt_X10_lived 8 rfl)
set_option maxHeartbeats 4000000 in
set_option maxRecDepth 100000 in
theorem L_X10_mean_32 {p : Program} {l : Launch} {e : Env} {s : State} {m : MethodId} {args : Array Value} {below : List Frame} {meth : Method} {c : Code} {D : va_G} {cA ad : Nat → Nat} {q : (Int32 × GW)} (C : gC p c cX10_mean meth m s args 6 (some .boolean) RX10 D cA ad shX) (w : GW) (hf : f_X10_mean_32 w = some q) : gW p l e (gRm 8 288) s m args below meth c D cA ad shX 6 0 0 (gQ below D cA ad shX (some (.int q.1)) q.2 args s) 32 [(0, .ref 0)] [] w := by
  unfold f_X10_mean_32 at hf
  refine g_aload_n C (gdec dt_X10_mean 17 rfl) (i := 0) rfl rfl ?_
  refine g_iconst C (gdec dt_X10_mean 18 rfl) ic_1 ?_
  obtain ⟨q9, hq9, hf⟩ := Option.bind_eq_some_iff.mp hf
  refine g_invV [.int (1 : Int32)] [] C (c_X10_deny l D cA _ (gCi C) w (1 : Int32) q9 hq9) kT_X10_deny kl_X10_134 kim_X10_deny kse_X10_deny rfl rfl (i := 0) rfl rfl ⟨by decide, by decide⟩ gk0 (Nat.le_of_ble_eq_true rfl) (gdec dt_X10_mean 19 rfl) rfl (st2 := [.int q9.1]) rfl ?_
  obtain ⟨hb10, hf⟩ := gif hf
  cases hf
  exact g_zret C hb10 rfl (gdec dt_X10_mean 20 rfl)
set_option maxHeartbeats 4000000 in
set_option maxRecDepth 100000 in
theorem Lb_X10_mean_60 {p : Program} {l : Launch} {e : Env} {s : State} {m : MethodId} {args : Array Value} {below : List Frame} {meth : Method} {c : Code} {D : va_G} {cA ad : Nat → Nat} {q : (Int32 × GW)} (C : gC p c cX10_mean meth m s args 6 (some .boolean) RX10 D cA ad shX) {k60 : Int32 → Int32 → Int64 → Int32 → GW → Option (Int32 × GW)} (hk60 : ∀ (x1 : Int32) (x2 : Int32) (x3 : Int64) (x5 : Int32) (w : GW), k60 x1 x2 x3 x5 w = some q → gW p l e (gRm 8 288) s m args below meth c D cA ad shX 6 0 0 (gQ below D cA ad shX (some (.int q.1)) q.2 args s) 60 [(0, .ref 0), (1, .int x1), (2, .int x2), (3, .long x3), (5, .int x5)] [] w) (x1 : Int32) (x2 : Int32) (x3 : Int64) (x5 : Int32) (w : GW) (hf : b_X10_mean_60 k60 x1 x2 x3 x5 w = some q) : gW p l e (gRm 8 288) s m args below meth c D cA ad shX 6 0 0 (gQ below D cA ad shX (some (.int q.1)) q.2 args s) 60 [(0, .ref 0), (1, .int x1), (2, .int x2), (3, .long x3), (5, .int x5)] [] w := by
  unfold b_X10_mean_60 at hf
  refine g_iload C (gdec dt_X10_mean 33 rfl) rfl ?_
  refine g_iload_n C (gdec dt_X10_mean 34 rfl) (i := 2) rfl rfl ?_
  refine g_icmp_ge C (tgt := 113) (gdec dt_X10_mean 35 rfl) (by decide) (fun hc11 => ?_) (fun hc11 => ?_)
  · have hf := (if_pos hc11).symm.trans hf
    refine g_aload_n C (gdec dt_X10_mean 60 rfl) (i := 0) rfl rfl ?_
    refine g_lload_n C (gdec dt_X10_mean 61 rfl) (i := 3) rfl rfl ?_
    refine g_iload_n C (gdec dt_X10_mean 62 rfl) (i := 2) rfl rfl ?_
    refine g_i2l C (gdec dt_X10_mean 63 rfl) ?_
    obtain ⟨q12, hq12, hf⟩ := Option.bind_eq_some_iff.mp hf
    refine g_invV [.long x3, .long x2.toInt64] [] C (c_X10_grantFraction l D cA _ (gCi C) w x3 x2.toInt64 q12 hq12) kT_X10_grantFraction kl_X10_434 kim_X10_grantFraction kse_X10_grantFraction rfl rfl (i := 0) rfl rfl ⟨by decide, by decide⟩ gk0 (Nat.le_of_ble_eq_true rfl) (gdec dt_X10_mean 64 rfl) rfl (st2 := [.int q12.1]) rfl ?_
    obtain ⟨hb13, hf⟩ := gif hf
    cases hf
    exact g_zret C hb13 rfl (gdec dt_X10_mean 65 rfl)
  · have hf := (if_neg hc11).symm.trans hf
    refine g_aload_n C (gdec dt_X10_mean 36 rfl) (i := 0) rfl rfl ?_
    refine g_getr C (j := 27) kf_X10_30 rfl rfl (gdec dt_X10_mean 37 rfl) ?_
    refine g_aload_n C (gdec dt_X10_mean 38 rfl) (i := 0) rfl rfl ?_
    refine g_getr C (j := 14) kf_X10_26 rfl rfl (gdec dt_X10_mean 39 rfl) ?_
    obtain ⟨q14, hq14, hf⟩ := Option.bind_eq_some_iff.mp hf
    refine g_invVs e_shX_shBB_27_14 [.ref 14] [] C (c_X0_copyFrom l D cA _ (gInj_sub em_e_shX_shBB_27_14 (gCi C)) (gsub w e_shX_shBB_27_14)  q14 hq14) em_e_shX_shBB_27_14 (by decide) rfl kT_X0_copyFrom kl_X10_183 kim_X0_copyFrom kse_X0_copyFrom rfl rfl (i := 27) rfl rfl ⟨by decide, by decide⟩ gk0 (Nat.le_of_ble_eq_true rfl) (gdec dt_X10_mean 40 rfl) rfl (st2 := []) (w2 := (gput w e_shX_shBB_27_14 q14)) rfl rfl ?_
    refine g_aload_n C (gdec dt_X10_mean 41 rfl) (i := 0) rfl rfl ?_
    refine g_getr C (j := 129) kf_X10_74 rfl rfl (gdec dt_X10_mean 42 rfl) ?_
    refine g_aload_n C (gdec dt_X10_mean 43 rfl) (i := 0) rfl rfl ?_
    refine g_getr C (j := 27) kf_X10_30 rfl rfl (gdec dt_X10_mean 44 rfl) ?_
    refine g_aload_n C (gdec dt_X10_mean 45 rfl) (i := 0) rfl rfl ?_
    refine g_getr C (j := 40) kf_X10_36 rfl rfl (gdec dt_X10_mean 46 rfl) ?_
    refine g_iload_n C (gdec dt_X10_mean 47 rfl) (i := 1) rfl rfl ?_
    refine g_iload C (gdec dt_X10_mean 48 rfl) rfl ?_
    refine g_iadd C (gdec dt_X10_mean 49 rfl) ?_
    obtain ⟨q15, hq15, hf⟩ := Option.bind_eq_some_iff.mp hf
    refine g_invVs e_shX_shL_129_27_40 [.ref 27, .ref 40, .int (x1 + x5)] [] C (c_X3_goThrough l D cA _ (gInj_sub em_e_shX_shL_129_27_40 (gCi C)) (gsub (gput w e_shX_shBB_27_14 q14) e_shX_shL_129_27_40) (x1 + x5) q15 hq15) em_e_shX_shL_129_27_40 (by decide) rfl kT_X3_goThrough kl_X10_440 kim_X3_goThrough kse_X3_goThrough rfl rfl (i := 129) rfl rfl ⟨by decide, by decide⟩ gk0 (Nat.le_of_ble_eq_true rfl) (gdec dt_X10_mean 50 rfl) rfl (st2 := []) (w2 := (gput (gput w e_shX_shBB_27_14 q14) e_shX_shL_129_27_40 q15)) rfl rfl ?_
    refine g_lload_n C (gdec dt_X10_mean 51 rfl) (i := 3) rfl rfl ?_
    refine g_aload_n C (gdec dt_X10_mean 52 rfl) (i := 0) rfl rfl ?_
    refine g_getr C (j := 27) kf_X10_30 rfl rfl (gdec dt_X10_mean 53 rfl) ?_
    obtain ⟨q16, hq16, hf⟩ := Option.bind_eq_some_iff.mp hf
    refine g_invVs e_shX_shB_27 [] [.long x3] C (c_X0_greyOfAll l D cA _ (gInj_sub em_e_shX_shB_27 (gCi C)) (gsub (gput (gput w e_shX_shBB_27_14 q14) e_shX_shL_129_27_40 q15) e_shX_shB_27)  q16 hq16) em_e_shX_shB_27 (by decide) rfl kT_X0_greyOfAll kl_X10_236 kim_X0_greyOfAll kse_X0_greyOfAll rfl rfl (i := 27) rfl rfl ⟨by decide, by decide⟩ gk0 (Nat.le_of_ble_eq_true rfl) (gdec dt_X10_mean 54 rfl) rfl (st2 := [.int q16, .long x3]) (w2 := (gput (gput w e_shX_shBB_27_14 q14) e_shX_shL_129_27_40 q15)) rfl (gput_sub _ _) ?_
    refine g_i2l C (gdec dt_X10_mean 55 rfl) ?_
    refine g_ladd C (gdec dt_X10_mean 56 rfl) ?_
    refine g_lstore_n C (gdec dt_X10_mean 57 rfl) (i := 3) rfl (by decide) (lo2 := [(3, .long (x3 + q16.toInt64)), (0, .ref 0), (1, .int x1), (2, .int x2), (5, .int x5)]) rfl ?_
    refine g_iinc C (gdec dt_X10_mean 58 rfl) (kk := 4) rfl (v := (x5 + (1 : Int32))) rfl (by decide) (lo2 := [(5, .int (x5 + (1 : Int32))), (3, .long (x3 + q16.toInt64)), (0, .ref 0), (1, .int x1), (2, .int x2)]) rfl ?_
    refine g_goto C (tgt := 60) (gdec dt_X10_mean 59 rfl) (by decide) ?_
    refine g_sub [2, 3, 4, 1, 0] (lo2 := [(0, .ref 0), (1, .int x1), (2, .int x2), (3, .long (x3 + q16.toInt64)), (5, .int (x5 + (1 : Int32)))]) rfl ?_
    exact hk60 x1 x2 (x3 + q16.toInt64) (x5 + (1 : Int32)) (gput (gput w e_shX_shBB_27_14 q14) e_shX_shL_129_27_40 q15) hf
theorem L_X10_mean_60 {p : Program} {l : Launch} {e : Env} {s : State} {m : MethodId} {args : Array Value} {below : List Frame} {meth : Method} {c : Code} {D : va_G} {cA ad : Nat → Nat} {q : (Int32 × GW)} (C : gC p c cX10_mean meth m s args 6 (some .boolean) RX10 D cA ad shX) : ∀ (n : Nat) (x1 : Int32) (x2 : Int32) (x3 : Int64) (x5 : Int32) (w : GW), f_X10_mean_60 n x1 x2 x3 x5 w = some q → gW p l e (gRm 8 288) s m args below meth c D cA ad shX 6 0 0 (gQ below D cA ad shX (some (.int q.1)) q.2 args s) 60 [(0, .ref 0), (1, .int x1), (2, .int x2), (3, .long x3), (5, .int x5)] [] w := by
  intro n
  induction n with
  | zero => intro _ _ _ _ _ hf; cases hf
  | succ n ih => intro x1 x2 x3 x5 w hf; exact Lb_X10_mean_60 C ih x1 x2 x3 x5 w hf
set_option maxHeartbeats 4000000 in
set_option maxRecDepth 100000 in
theorem c_X10_mean (l : Launch) (D : va_G) (cA ad : Nat → Nat) (hin : gInj ad shX.length) (w : GW) (x1 : Int32) (x2 : Int32) (q : (Int32 × GW)) (hf : F_X10_mean x1 x2 w = some q) : gMet l yX10_mean cX10_mean 6 (some .boolean) 8 288 D cA ad shX [.ref 0, .int x1, .int x2] w (some (.int q.1)) q.2 := by
  refine g_entry (by decide) hin (Nat.le_of_ble_eq_true rfl) ?_
  intro p e s m args below meth c C
  unfold F_X10_mean at hf
  show gW p l e (gRm 8 288) s m args below meth c D cA ad shX 6 0 0 (gQ below D cA ad shX (some (.int q.1)) q.2 args s) 0 [(0, .ref 0), (1, .int x1), (2, .int x2)] [] w
  refine g_iload_n C (gdec dt_X10_mean 0 rfl) (i := 1) rfl rfl ?_
  refine g_iconst C (gdec dt_X10_mean 1 rfl) ic_0 ?_
  refine g_sipush C (gdec dt_X10_mean 2 rfl) sc_9999 ?_
  obtain ⟨q1, hq1, hf⟩ := Option.bind_eq_some_iff.mp hf
  refine g_invSs e_nil [.int x1, .int (0 : Int32), .int (9999 : Int32)] [] C (c_X10_between l D cA _ (gInj_sub em_e_nil_shX (gCi C)) (gsub w e_nil) x1 (0 : Int32) (9999 : Int32) q1 hq1) em_e_nil_shX (by decide) rfl kT_X10_between kl_X10_126 kst_X10_between rfl rfl ⟨by decide, by decide⟩ gk0 (Nat.le_of_ble_eq_true rfl) (gdec dt_X10_mean 3 rfl) rfl (st2 := [.int q1]) (w2 := w) rfl (gput_sub _ _) ?_
  refine g_if_eq C (tgt := 32) (gdec dt_X10_mean 4 rfl) (by decide) (fun hc2 => ?_) (fun hc2 => ?_)
  · have hf := (if_pos hc2).symm.trans hf
    refine g_sub [0] (lo2 := [(0, .ref 0)]) rfl ?_
    exact L_X10_mean_32 C w hf
  · have hf := (if_neg hc2).symm.trans hf
    refine g_iload_n C (gdec dt_X10_mean 5 rfl) (i := 2) rfl rfl ?_
    refine g_iconst C (gdec dt_X10_mean 6 rfl) ic_1 ?_
    refine g_bipush C (gdec dt_X10_mean 7 rfl) bc_20 ?_
    obtain ⟨q3, hq3, hf⟩ := Option.bind_eq_some_iff.mp hf
    refine g_invSs e_nil [.int x2, .int (1 : Int32), .int (20 : Int32)] [] C (c_X10_between l D cA _ (gInj_sub em_e_nil_shX (gCi C)) (gsub w e_nil) x2 (1 : Int32) (20 : Int32) q3 hq3) em_e_nil_shX (by decide) rfl kT_X10_between kl_X10_126 kst_X10_between rfl rfl ⟨by decide, by decide⟩ gk0 (Nat.le_of_ble_eq_true rfl) (gdec dt_X10_mean 8 rfl) rfl (st2 := [.int q3]) (w2 := w) rfl (gput_sub _ _) ?_
    refine g_if_eq C (tgt := 32) (gdec dt_X10_mean 9 rfl) (by decide) (fun hc4 => ?_) (fun hc4 => ?_)
    · have hf := (if_pos hc4).symm.trans hf
      refine g_sub [0] (lo2 := [(0, .ref 0)]) rfl ?_
      exact L_X10_mean_32 C w hf
    · have hf := (if_neg hc4).symm.trans hf
      refine g_iload_n C (gdec dt_X10_mean 10 rfl) (i := 1) rfl rfl ?_
      refine g_iload_n C (gdec dt_X10_mean 11 rfl) (i := 2) rfl rfl ?_
      refine g_iadd C (gdec dt_X10_mean 12 rfl) ?_
      refine g_iconst C (gdec dt_X10_mean 13 rfl) ic_1 ?_
      refine g_isub C (gdec dt_X10_mean 14 rfl) ?_
      refine g_sipush C (gdec dt_X10_mean 15 rfl) sc_9999 ?_
      refine g_icmp_le C (tgt := 38) (gdec dt_X10_mean 16 rfl) (by decide) (fun hc5 => ?_) (fun hc5 => ?_)
      · have hf := (if_pos hc5).symm.trans hf
        refine g_aload_n C (gdec dt_X10_mean 21 rfl) (i := 0) rfl rfl ?_
        refine g_getr C (j := 40) kf_X10_36 rfl rfl (gdec dt_X10_mean 22 rfl) ?_
        refine g_geti C kf_X10_438 rfl rfl (gdec dt_X10_mean 23 rfl) ?_
        refine g_if_ne C (tgt := 55) (gdec dt_X10_mean 24 rfl) (by decide) (fun hc6 => ?_) (fun hc6 => ?_)
        · have hf := (if_neg hc6).symm.trans hf
          refine g_lconst C (gdec dt_X10_mean 29 rfl) lc_0 ?_
          refine g_lstore_n C (gdec dt_X10_mean 30 rfl) (i := 3) rfl (by decide) (lo2 := [(3, .long (0 : Int64)), (0, .ref 0), (1, .int x1), (2, .int x2)]) rfl ?_
          refine g_iconst C (gdec dt_X10_mean 31 rfl) ic_0 ?_
          refine g_istore C (gdec dt_X10_mean 32 rfl) (by decide) (lo2 := [(5, .int (0 : Int32)), (3, .long (0 : Int64)), (0, .ref 0), (1, .int x1), (2, .int x2)]) rfl ?_
          refine g_sub [2, 3, 4, 1, 0] (lo2 := [(0, .ref 0), (1, .int x1), (2, .int x2), (3, .long (0 : Int64)), (5, .int (0 : Int32))]) rfl ?_
          exact L_X10_mean_60 C FU x1 x2 (0 : Int64) (0 : Int32) w hf
        · have hf := (if_pos hc6).symm.trans hf
          refine g_aload_n C (gdec dt_X10_mean 25 rfl) (i := 0) rfl rfl ?_
          refine g_bipush C (gdec dt_X10_mean 26 rfl) bc_6 ?_
          obtain ⟨q7, hq7, hf⟩ := Option.bind_eq_some_iff.mp hf
          refine g_invV [.int (6 : Int32)] [] C (c_X10_deny l D cA _ (gCi C) w (6 : Int32) q7 hq7) kT_X10_deny kl_X10_134 kim_X10_deny kse_X10_deny rfl rfl (i := 0) rfl rfl ⟨by decide, by decide⟩ gk0 (Nat.le_of_ble_eq_true rfl) (gdec dt_X10_mean 27 rfl) rfl (st2 := [.int q7.1]) rfl ?_
          obtain ⟨hb8, hf⟩ := gif hf
          cases hf
          exact g_zret C hb8 rfl (gdec dt_X10_mean 28 rfl)
      · have hf := (if_neg hc5).symm.trans hf
        refine g_sub [0] (lo2 := [(0, .ref 0)]) rfl ?_
        exact L_X10_mean_32 C w hf
set_option maxHeartbeats 4000000 in
set_option maxRecDepth 100000 in
theorem c_X10_mark (l : Launch) (D : va_G) (cA ad : Nat → Nat) (hin : gInj ad shX.length) (w : GW) (q : (Int32 × GW)) (hf : F_X10_mark w = some q) : gMet l yX10_mark cX10_mark 2 (some .int) 2 141 D cA ad shX [.ref 0] w (some (.int q.1)) q.2 := by
  refine g_entry (by decide) hin (Nat.le_of_ble_eq_true rfl) ?_
  intro p e s m args below meth c C
  unfold F_X10_mark at hf
  show gW p l e (gRm 2 141) s m args below meth c D cA ad shX 2 0 0 (gQ below D cA ad shX (some (.int q.1)) q.2 args s) 0 [(0, .ref 0)] [] w
  refine g_aload_n C (gdec dt_X10_mark 0 rfl) (i := 0) rfl rfl ?_
  refine g_geti C kf_X10_91 rfl rfl (gdec dt_X10_mark 1 rfl) ?_
  refine g_iconst C (gdec dt_X10_mark 2 rfl) ic_3 ?_
  refine g_icmp_lt C (tgt := 14) (gdec dt_X10_mark 3 rfl) (by decide) (fun hc1 => ?_) (fun hc1 => ?_)
  · have hf := (if_pos hc1).symm.trans hf
    refine g_aload_n C (gdec dt_X10_mark 8 rfl) (i := 0) rfl rfl ?_
    refine g_getr C (j := 59) kf_X10_63 rfl rfl (gdec dt_X10_mark 9 rfl) ?_
    refine g_aload_n C (gdec dt_X10_mark 10 rfl) (i := 0) rfl rfl ?_
    refine g_geti C kf_X10_91 rfl rfl (gdec dt_X10_mark 11 rfl) ?_
    by_cases hc2 : (w.1 0 13) = (0 : Int32)
    · have hf := (if_pos hc2).symm.trans hf
      refine g_aald4 C (i := 59) (r := 60) rfl (by rw [hc2]; exact gin_k (k := 0) (by decide) (by decide) (by decide)) (by rw [hc2]; decide) (gdec dt_X10_mark 12 rfl) ?_
      refine g_astore_n C (gdec dt_X10_mark 13 rfl) (i := 1) rfl (by decide) (lo2 := [(1, .ref 60), (0, .ref 0)]) rfl ?_
      refine g_aload_n C (gdec dt_X10_mark 14 rfl) (i := 1) rfl rfl ?_
      refine g_ifnull C (gdec dt_X10_mark 15 rfl) ?_
      refine g_aload_n C (gdec dt_X10_mark 16 rfl) (i := 1) rfl rfl ?_
      refine g_getr C (j := 61) kf_X10_460 rfl rfl (gdec dt_X10_mark 17 rfl) ?_
      refine g_aload_n C (gdec dt_X10_mark 18 rfl) (i := 0) rfl rfl ?_
      refine g_getr C (j := 14) kf_X10_26 rfl rfl (gdec dt_X10_mark 19 rfl) ?_
      obtain ⟨q3, hq3, hf⟩ := Option.bind_eq_some_iff.mp hf
      refine g_invVs e_shX_shBB_61_14 [.ref 14] [] C (c_X0_copyFrom l D cA _ (gInj_sub em_e_shX_shBB_61_14 (gCi C)) (gsub w e_shX_shBB_61_14)  q3 hq3) em_e_shX_shBB_61_14 (by decide) rfl kT_X0_copyFrom kl_X10_183 kim_X0_copyFrom kse_X0_copyFrom rfl rfl (i := 61) rfl rfl ⟨by decide, by decide⟩ gk0 (Nat.le_of_ble_eq_true rfl) (gdec dt_X10_mark 20 rfl) rfl (st2 := []) (w2 := (gput w e_shX_shBB_61_14 q3)) rfl rfl ?_
      refine g_aload_n C (gdec dt_X10_mark 21 rfl) (i := 1) rfl rfl ?_
      refine g_getr C (j := 74) kf_X10_463 rfl rfl (gdec dt_X10_mark 22 rfl) ?_
      refine g_aload_n C (gdec dt_X10_mark 23 rfl) (i := 0) rfl rfl ?_
      refine g_getr C (j := 40) kf_X10_36 rfl rfl (gdec dt_X10_mark 24 rfl) ?_
      obtain ⟨q4, hq4, hf⟩ := Option.bind_eq_some_iff.mp hf
      refine g_invVs e_shX_shPP_74_40 [.ref 40] [] C (c_X5_copyFrom l D cA _ (gInj_sub em_e_shX_shPP_74_40 (gCi C)) (gsub (gput w e_shX_shBB_61_14 q3) e_shX_shPP_74_40)  q4 hq4) em_e_shX_shPP_74_40 (by decide) rfl kT_X5_copyFrom kl_X10_196 kim_X5_copyFrom kse_X5_copyFrom rfl rfl (i := 74) rfl rfl ⟨by decide, by decide⟩ gk0 (Nat.le_of_ble_eq_true rfl) (gdec dt_X10_mark 25 rfl) rfl (st2 := []) (w2 := (gput (gput w e_shX_shBB_61_14 q3) e_shX_shPP_74_40 q4)) rfl rfl ?_
      refine g_aload_n C (gdec dt_X10_mark 26 rfl) (i := 0) rfl rfl ?_
      refine g_dup C (gdec dt_X10_mark 27 rfl) rfl ?_
      refine g_getiv C kf_X10_91 rfl rfl (gdec dt_X10_mark 28 rfl) (v := (w.1 0 13)) rfl ?_
      refine g_iconst C (gdec dt_X10_mark 29 rfl) ic_1 ?_
      refine g_iadd C (gdec dt_X10_mark 30 rfl) ?_
      refine g_puti C kf_X10_91 rfl rfl (gdec dt_X10_mark 31 rfl) ?_
      refine g_aload_n C (gdec dt_X10_mark 32 rfl) (i := 0) rfl rfl ?_
      refine g_aload_n C (gdec dt_X10_mark 33 rfl) (i := 0) rfl rfl ?_
      refine g_getiv C kf_X10_91 rfl rfl (gdec dt_X10_mark 34 rfl) (v := ((w.1 0 13) + (1 : Int32))) rfl ?_
      obtain ⟨q5, hq5, hf⟩ := Option.bind_eq_some_iff.mp hf
      refine g_invV [.int ((w.1 0 13) + (1 : Int32))] [] C (c_X10_answer l D cA _ (gCi C) (gI (gput (gput w e_shX_shBB_61_14 q3) e_shX_shPP_74_40 q4) 0 13 ((w.1 0 13) + (1 : Int32))) ((w.1 0 13) + (1 : Int32)) q5 hq5) kT_X10_answer kl_X10_114 kim_X10_answer kse_X10_answer rfl rfl (i := 0) rfl rfl ⟨by decide, by decide⟩ gk0 (Nat.le_of_ble_eq_true rfl) (gdec dt_X10_mark 35 rfl) rfl (st2 := [.int q5.1]) rfl ?_
      cases hf
      exact g_iret C rfl (gdec dt_X10_mark 36 rfl)
    replace hf := (if_neg hc2).symm.trans hf
    by_cases hc6 : (w.1 0 13) = (1 : Int32)
    · have hf := (if_pos hc6).symm.trans hf
      refine g_aald4 C (i := 59) (r := 82) rfl (by rw [hc6]; exact gin_k (k := 1) (by decide) (by decide) (by decide)) (by rw [hc6]; decide) (gdec dt_X10_mark 12 rfl) ?_
      refine g_astore_n C (gdec dt_X10_mark 13 rfl) (i := 1) rfl (by decide) (lo2 := [(1, .ref 82), (0, .ref 0)]) rfl ?_
      refine g_aload_n C (gdec dt_X10_mark 14 rfl) (i := 1) rfl rfl ?_
      refine g_ifnull C (gdec dt_X10_mark 15 rfl) ?_
      refine g_aload_n C (gdec dt_X10_mark 16 rfl) (i := 1) rfl rfl ?_
      refine g_getr C (j := 83) kf_X10_460 rfl rfl (gdec dt_X10_mark 17 rfl) ?_
      refine g_aload_n C (gdec dt_X10_mark 18 rfl) (i := 0) rfl rfl ?_
      refine g_getr C (j := 14) kf_X10_26 rfl rfl (gdec dt_X10_mark 19 rfl) ?_
      obtain ⟨q7, hq7, hf⟩ := Option.bind_eq_some_iff.mp hf
      refine g_invVs e_shX_shBB_83_14 [.ref 14] [] C (c_X0_copyFrom l D cA _ (gInj_sub em_e_shX_shBB_83_14 (gCi C)) (gsub w e_shX_shBB_83_14)  q7 hq7) em_e_shX_shBB_83_14 (by decide) rfl kT_X0_copyFrom kl_X10_183 kim_X0_copyFrom kse_X0_copyFrom rfl rfl (i := 83) rfl rfl ⟨by decide, by decide⟩ gk0 (Nat.le_of_ble_eq_true rfl) (gdec dt_X10_mark 20 rfl) rfl (st2 := []) (w2 := (gput w e_shX_shBB_83_14 q7)) rfl rfl ?_
      refine g_aload_n C (gdec dt_X10_mark 21 rfl) (i := 1) rfl rfl ?_
      refine g_getr C (j := 96) kf_X10_463 rfl rfl (gdec dt_X10_mark 22 rfl) ?_
      refine g_aload_n C (gdec dt_X10_mark 23 rfl) (i := 0) rfl rfl ?_
      refine g_getr C (j := 40) kf_X10_36 rfl rfl (gdec dt_X10_mark 24 rfl) ?_
      obtain ⟨q8, hq8, hf⟩ := Option.bind_eq_some_iff.mp hf
      refine g_invVs e_shX_shPP_96_40 [.ref 40] [] C (c_X5_copyFrom l D cA _ (gInj_sub em_e_shX_shPP_96_40 (gCi C)) (gsub (gput w e_shX_shBB_83_14 q7) e_shX_shPP_96_40)  q8 hq8) em_e_shX_shPP_96_40 (by decide) rfl kT_X5_copyFrom kl_X10_196 kim_X5_copyFrom kse_X5_copyFrom rfl rfl (i := 96) rfl rfl ⟨by decide, by decide⟩ gk0 (Nat.le_of_ble_eq_true rfl) (gdec dt_X10_mark 25 rfl) rfl (st2 := []) (w2 := (gput (gput w e_shX_shBB_83_14 q7) e_shX_shPP_96_40 q8)) rfl rfl ?_
      refine g_aload_n C (gdec dt_X10_mark 26 rfl) (i := 0) rfl rfl ?_
      refine g_dup C (gdec dt_X10_mark 27 rfl) rfl ?_
      refine g_getiv C kf_X10_91 rfl rfl (gdec dt_X10_mark 28 rfl) (v := (w.1 0 13)) rfl ?_
      refine g_iconst C (gdec dt_X10_mark 29 rfl) ic_1 ?_
      refine g_iadd C (gdec dt_X10_mark 30 rfl) ?_
      refine g_puti C kf_X10_91 rfl rfl (gdec dt_X10_mark 31 rfl) ?_
      refine g_aload_n C (gdec dt_X10_mark 32 rfl) (i := 0) rfl rfl ?_
      refine g_aload_n C (gdec dt_X10_mark 33 rfl) (i := 0) rfl rfl ?_
      refine g_getiv C kf_X10_91 rfl rfl (gdec dt_X10_mark 34 rfl) (v := ((w.1 0 13) + (1 : Int32))) rfl ?_
      obtain ⟨q9, hq9, hf⟩ := Option.bind_eq_some_iff.mp hf
      refine g_invV [.int ((w.1 0 13) + (1 : Int32))] [] C (c_X10_answer l D cA _ (gCi C) (gI (gput (gput w e_shX_shBB_83_14 q7) e_shX_shPP_96_40 q8) 0 13 ((w.1 0 13) + (1 : Int32))) ((w.1 0 13) + (1 : Int32)) q9 hq9) kT_X10_answer kl_X10_114 kim_X10_answer kse_X10_answer rfl rfl (i := 0) rfl rfl ⟨by decide, by decide⟩ gk0 (Nat.le_of_ble_eq_true rfl) (gdec dt_X10_mark 35 rfl) rfl (st2 := [.int q9.1]) rfl ?_
      cases hf
      exact g_iret C rfl (gdec dt_X10_mark 36 rfl)
    replace hf := (if_neg hc6).symm.trans hf
    by_cases hc10 : (w.1 0 13) = (2 : Int32)
    · have hf := (if_pos hc10).symm.trans hf
      refine g_aald4 C (i := 59) (r := 104) rfl (by rw [hc10]; exact gin_k (k := 2) (by decide) (by decide) (by decide)) (by rw [hc10]; decide) (gdec dt_X10_mark 12 rfl) ?_
      refine g_astore_n C (gdec dt_X10_mark 13 rfl) (i := 1) rfl (by decide) (lo2 := [(1, .ref 104), (0, .ref 0)]) rfl ?_
      refine g_aload_n C (gdec dt_X10_mark 14 rfl) (i := 1) rfl rfl ?_
      refine g_ifnull C (gdec dt_X10_mark 15 rfl) ?_
      refine g_aload_n C (gdec dt_X10_mark 16 rfl) (i := 1) rfl rfl ?_
      refine g_getr C (j := 105) kf_X10_460 rfl rfl (gdec dt_X10_mark 17 rfl) ?_
      refine g_aload_n C (gdec dt_X10_mark 18 rfl) (i := 0) rfl rfl ?_
      refine g_getr C (j := 14) kf_X10_26 rfl rfl (gdec dt_X10_mark 19 rfl) ?_
      obtain ⟨q11, hq11, hf⟩ := Option.bind_eq_some_iff.mp hf
      refine g_invVs e_shX_shBB_105_14 [.ref 14] [] C (c_X0_copyFrom l D cA _ (gInj_sub em_e_shX_shBB_105_14 (gCi C)) (gsub w e_shX_shBB_105_14)  q11 hq11) em_e_shX_shBB_105_14 (by decide) rfl kT_X0_copyFrom kl_X10_183 kim_X0_copyFrom kse_X0_copyFrom rfl rfl (i := 105) rfl rfl ⟨by decide, by decide⟩ gk0 (Nat.le_of_ble_eq_true rfl) (gdec dt_X10_mark 20 rfl) rfl (st2 := []) (w2 := (gput w e_shX_shBB_105_14 q11)) rfl rfl ?_
      refine g_aload_n C (gdec dt_X10_mark 21 rfl) (i := 1) rfl rfl ?_
      refine g_getr C (j := 118) kf_X10_463 rfl rfl (gdec dt_X10_mark 22 rfl) ?_
      refine g_aload_n C (gdec dt_X10_mark 23 rfl) (i := 0) rfl rfl ?_
      refine g_getr C (j := 40) kf_X10_36 rfl rfl (gdec dt_X10_mark 24 rfl) ?_
      obtain ⟨q12, hq12, hf⟩ := Option.bind_eq_some_iff.mp hf
      refine g_invVs e_shX_shPP_118_40 [.ref 40] [] C (c_X5_copyFrom l D cA _ (gInj_sub em_e_shX_shPP_118_40 (gCi C)) (gsub (gput w e_shX_shBB_105_14 q11) e_shX_shPP_118_40)  q12 hq12) em_e_shX_shPP_118_40 (by decide) rfl kT_X5_copyFrom kl_X10_196 kim_X5_copyFrom kse_X5_copyFrom rfl rfl (i := 118) rfl rfl ⟨by decide, by decide⟩ gk0 (Nat.le_of_ble_eq_true rfl) (gdec dt_X10_mark 25 rfl) rfl (st2 := []) (w2 := (gput (gput w e_shX_shBB_105_14 q11) e_shX_shPP_118_40 q12)) rfl rfl ?_
      refine g_aload_n C (gdec dt_X10_mark 26 rfl) (i := 0) rfl rfl ?_
      refine g_dup C (gdec dt_X10_mark 27 rfl) rfl ?_
      refine g_getiv C kf_X10_91 rfl rfl (gdec dt_X10_mark 28 rfl) (v := (w.1 0 13)) rfl ?_
      refine g_iconst C (gdec dt_X10_mark 29 rfl) ic_1 ?_
      refine g_iadd C (gdec dt_X10_mark 30 rfl) ?_
      refine g_puti C kf_X10_91 rfl rfl (gdec dt_X10_mark 31 rfl) ?_
      refine g_aload_n C (gdec dt_X10_mark 32 rfl) (i := 0) rfl rfl ?_
      refine g_aload_n C (gdec dt_X10_mark 33 rfl) (i := 0) rfl rfl ?_
      refine g_getiv C kf_X10_91 rfl rfl (gdec dt_X10_mark 34 rfl) (v := ((w.1 0 13) + (1 : Int32))) rfl ?_
      obtain ⟨q13, hq13, hf⟩ := Option.bind_eq_some_iff.mp hf
      refine g_invV [.int ((w.1 0 13) + (1 : Int32))] [] C (c_X10_answer l D cA _ (gCi C) (gI (gput (gput w e_shX_shBB_105_14 q11) e_shX_shPP_118_40 q12) 0 13 ((w.1 0 13) + (1 : Int32))) ((w.1 0 13) + (1 : Int32)) q13 hq13) kT_X10_answer kl_X10_114 kim_X10_answer kse_X10_answer rfl rfl (i := 0) rfl rfl ⟨by decide, by decide⟩ gk0 (Nat.le_of_ble_eq_true rfl) (gdec dt_X10_mark 35 rfl) rfl (st2 := [.int q13.1]) rfl ?_
      cases hf
      exact g_iret C rfl (gdec dt_X10_mark 36 rfl)
    replace hf := (if_neg hc10).symm.trans hf
    cases hf
  · have hf := (if_neg hc1).symm.trans hf
    refine g_aload_n C (gdec dt_X10_mark 4 rfl) (i := 0) rfl rfl ?_
    refine g_iconst C (gdec dt_X10_mark 5 rfl) ic_4 ?_
    obtain ⟨q14, hq14, hf⟩ := Option.bind_eq_some_iff.mp hf
    refine g_invV [.int (4 : Int32)] [] C (c_X10_refuse l D cA _ (gCi C) w (4 : Int32) q14 hq14) kT_X10_refuse kl_X10_110 kim_X10_refuse kse_X10_refuse rfl rfl (i := 0) rfl rfl ⟨by decide, by decide⟩ gk0 (Nat.le_of_ble_eq_true rfl) (gdec dt_X10_mark 6 rfl) rfl (st2 := [.int q14.1]) rfl ?_
    cases hf
    exact g_iret C rfl (gdec dt_X10_mark 7 rfl)
set_option maxHeartbeats 4000000 in
set_option maxRecDepth 100000 in
theorem c_X10_undo (l : Launch) (D : va_G) (cA ad : Nat → Nat) (hin : gInj ad shX.length) (w : GW) (q : (Int32 × GW)) (hf : F_X10_undo w = some q) : gMet l yX10_undo cX10_undo 2 (some .int) 2 141 D cA ad shX [.ref 0] w (some (.int q.1)) q.2 := by
  refine g_entry (by decide) hin (Nat.le_of_ble_eq_true rfl) ?_
  intro p e s m args below meth c C
  unfold F_X10_undo at hf
  show gW p l e (gRm 2 141) s m args below meth c D cA ad shX 2 0 0 (gQ below D cA ad shX (some (.int q.1)) q.2 args s) 0 [(0, .ref 0)] [] w
  refine g_aload_n C (gdec dt_X10_undo 0 rfl) (i := 0) rfl rfl ?_
  refine g_geti C kf_X10_91 rfl rfl (gdec dt_X10_undo 1 rfl) ?_
  refine g_if_gt C (tgt := 14) (gdec dt_X10_undo 2 rfl) (by decide) (fun hc1 => ?_) (fun hc1 => ?_)
  · have hf := (if_pos hc1).symm.trans hf
    refine g_aload_n C (gdec dt_X10_undo 7 rfl) (i := 0) rfl rfl ?_
    refine g_dup C (gdec dt_X10_undo 8 rfl) rfl ?_
    refine g_geti C kf_X10_91 rfl rfl (gdec dt_X10_undo 9 rfl) ?_
    refine g_iconst C (gdec dt_X10_undo 10 rfl) ic_1 ?_
    refine g_isub C (gdec dt_X10_undo 11 rfl) ?_
    refine g_puti C kf_X10_91 rfl rfl (gdec dt_X10_undo 12 rfl) ?_
    refine g_aload_n C (gdec dt_X10_undo 13 rfl) (i := 0) rfl rfl ?_
    refine g_getr C (j := 59) kf_X10_63 rfl rfl (gdec dt_X10_undo 14 rfl) ?_
    refine g_aload_n C (gdec dt_X10_undo 15 rfl) (i := 0) rfl rfl ?_
    refine g_getiv C kf_X10_91 rfl rfl (gdec dt_X10_undo 16 rfl) (v := ((w.1 0 13) - (1 : Int32))) rfl ?_
    by_cases hc2 : ((w.1 0 13) - (1 : Int32)) = (0 : Int32)
    · have hf := (if_pos hc2).symm.trans hf
      refine g_aald4 C (i := 59) (r := 60) rfl (by rw [hc2]; exact gin_k (k := 0) (by decide) (by decide) (by decide)) (by rw [hc2]; decide) (gdec dt_X10_undo 17 rfl) ?_
      refine g_astore_n C (gdec dt_X10_undo 18 rfl) (i := 1) rfl (by decide) (lo2 := [(1, .ref 60), (0, .ref 0)]) rfl ?_
      refine g_aload_n C (gdec dt_X10_undo 19 rfl) (i := 1) rfl rfl ?_
      refine g_ifnull C (gdec dt_X10_undo 20 rfl) ?_
      refine g_aload_n C (gdec dt_X10_undo 21 rfl) (i := 0) rfl rfl ?_
      refine g_getr C (j := 14) kf_X10_26 rfl rfl (gdec dt_X10_undo 22 rfl) ?_
      refine g_aload_n C (gdec dt_X10_undo 23 rfl) (i := 1) rfl rfl ?_
      refine g_getr C (j := 61) kf_X10_460 rfl rfl (gdec dt_X10_undo 24 rfl) ?_
      obtain ⟨q3, hq3, hf⟩ := Option.bind_eq_some_iff.mp hf
      refine g_invVs e_shX_shBB_14_61 [.ref 61] [] C (c_X0_copyFrom l D cA _ (gInj_sub em_e_shX_shBB_14_61 (gCi C)) (gsub (gI w 0 13 ((w.1 0 13) - (1 : Int32))) e_shX_shBB_14_61)  q3 hq3) em_e_shX_shBB_14_61 (by decide) rfl kT_X0_copyFrom kl_X10_183 kim_X0_copyFrom kse_X0_copyFrom rfl rfl (i := 14) rfl rfl ⟨by decide, by decide⟩ gk0 (Nat.le_of_ble_eq_true rfl) (gdec dt_X10_undo 25 rfl) rfl (st2 := []) (w2 := (gput (gI w 0 13 ((w.1 0 13) - (1 : Int32))) e_shX_shBB_14_61 q3)) rfl rfl ?_
      refine g_aload_n C (gdec dt_X10_undo 26 rfl) (i := 0) rfl rfl ?_
      refine g_getr C (j := 40) kf_X10_36 rfl rfl (gdec dt_X10_undo 27 rfl) ?_
      refine g_aload_n C (gdec dt_X10_undo 28 rfl) (i := 1) rfl rfl ?_
      refine g_getr C (j := 74) kf_X10_463 rfl rfl (gdec dt_X10_undo 29 rfl) ?_
      obtain ⟨q4, hq4, hf⟩ := Option.bind_eq_some_iff.mp hf
      refine g_invVs e_shX_shPP_40_74 [.ref 74] [] C (c_X5_copyFrom l D cA _ (gInj_sub em_e_shX_shPP_40_74 (gCi C)) (gsub (gput (gI w 0 13 ((w.1 0 13) - (1 : Int32))) e_shX_shBB_14_61 q3) e_shX_shPP_40_74)  q4 hq4) em_e_shX_shPP_40_74 (by decide) rfl kT_X5_copyFrom kl_X10_196 kim_X5_copyFrom kse_X5_copyFrom rfl rfl (i := 40) rfl rfl ⟨by decide, by decide⟩ gk0 (Nat.le_of_ble_eq_true rfl) (gdec dt_X10_undo 30 rfl) rfl (st2 := []) (w2 := (gput (gput (gI w 0 13 ((w.1 0 13) - (1 : Int32))) e_shX_shBB_14_61 q3) e_shX_shPP_40_74 q4)) rfl rfl ?_
      refine g_aload_n C (gdec dt_X10_undo 31 rfl) (i := 0) rfl rfl ?_
      refine g_aload_n C (gdec dt_X10_undo 32 rfl) (i := 0) rfl rfl ?_
      refine g_getiv C kf_X10_91 rfl rfl (gdec dt_X10_undo 33 rfl) (v := ((w.1 0 13) - (1 : Int32))) rfl ?_
      obtain ⟨q5, hq5, hf⟩ := Option.bind_eq_some_iff.mp hf
      refine g_invV [.int ((w.1 0 13) - (1 : Int32))] [] C (c_X10_answer l D cA _ (gCi C) (gput (gput (gI w 0 13 ((w.1 0 13) - (1 : Int32))) e_shX_shBB_14_61 q3) e_shX_shPP_40_74 q4) ((w.1 0 13) - (1 : Int32)) q5 hq5) kT_X10_answer kl_X10_114 kim_X10_answer kse_X10_answer rfl rfl (i := 0) rfl rfl ⟨by decide, by decide⟩ gk0 (Nat.le_of_ble_eq_true rfl) (gdec dt_X10_undo 34 rfl) rfl (st2 := [.int q5.1]) rfl ?_
      cases hf
      exact g_iret C rfl (gdec dt_X10_undo 35 rfl)
    replace hf := (if_neg hc2).symm.trans hf
    by_cases hc6 : ((w.1 0 13) - (1 : Int32)) = (1 : Int32)
    · have hf := (if_pos hc6).symm.trans hf
      refine g_aald4 C (i := 59) (r := 82) rfl (by rw [hc6]; exact gin_k (k := 1) (by decide) (by decide) (by decide)) (by rw [hc6]; decide) (gdec dt_X10_undo 17 rfl) ?_
      refine g_astore_n C (gdec dt_X10_undo 18 rfl) (i := 1) rfl (by decide) (lo2 := [(1, .ref 82), (0, .ref 0)]) rfl ?_
      refine g_aload_n C (gdec dt_X10_undo 19 rfl) (i := 1) rfl rfl ?_
      refine g_ifnull C (gdec dt_X10_undo 20 rfl) ?_
      refine g_aload_n C (gdec dt_X10_undo 21 rfl) (i := 0) rfl rfl ?_
      refine g_getr C (j := 14) kf_X10_26 rfl rfl (gdec dt_X10_undo 22 rfl) ?_
      refine g_aload_n C (gdec dt_X10_undo 23 rfl) (i := 1) rfl rfl ?_
      refine g_getr C (j := 83) kf_X10_460 rfl rfl (gdec dt_X10_undo 24 rfl) ?_
      obtain ⟨q7, hq7, hf⟩ := Option.bind_eq_some_iff.mp hf
      refine g_invVs e_shX_shBB_14_83 [.ref 83] [] C (c_X0_copyFrom l D cA _ (gInj_sub em_e_shX_shBB_14_83 (gCi C)) (gsub (gI w 0 13 ((w.1 0 13) - (1 : Int32))) e_shX_shBB_14_83)  q7 hq7) em_e_shX_shBB_14_83 (by decide) rfl kT_X0_copyFrom kl_X10_183 kim_X0_copyFrom kse_X0_copyFrom rfl rfl (i := 14) rfl rfl ⟨by decide, by decide⟩ gk0 (Nat.le_of_ble_eq_true rfl) (gdec dt_X10_undo 25 rfl) rfl (st2 := []) (w2 := (gput (gI w 0 13 ((w.1 0 13) - (1 : Int32))) e_shX_shBB_14_83 q7)) rfl rfl ?_
      refine g_aload_n C (gdec dt_X10_undo 26 rfl) (i := 0) rfl rfl ?_
      refine g_getr C (j := 40) kf_X10_36 rfl rfl (gdec dt_X10_undo 27 rfl) ?_
      refine g_aload_n C (gdec dt_X10_undo 28 rfl) (i := 1) rfl rfl ?_
      refine g_getr C (j := 96) kf_X10_463 rfl rfl (gdec dt_X10_undo 29 rfl) ?_
      obtain ⟨q8, hq8, hf⟩ := Option.bind_eq_some_iff.mp hf
      refine g_invVs e_shX_shPP_40_96 [.ref 96] [] C (c_X5_copyFrom l D cA _ (gInj_sub em_e_shX_shPP_40_96 (gCi C)) (gsub (gput (gI w 0 13 ((w.1 0 13) - (1 : Int32))) e_shX_shBB_14_83 q7) e_shX_shPP_40_96)  q8 hq8) em_e_shX_shPP_40_96 (by decide) rfl kT_X5_copyFrom kl_X10_196 kim_X5_copyFrom kse_X5_copyFrom rfl rfl (i := 40) rfl rfl ⟨by decide, by decide⟩ gk0 (Nat.le_of_ble_eq_true rfl) (gdec dt_X10_undo 30 rfl) rfl (st2 := []) (w2 := (gput (gput (gI w 0 13 ((w.1 0 13) - (1 : Int32))) e_shX_shBB_14_83 q7) e_shX_shPP_40_96 q8)) rfl rfl ?_
      refine g_aload_n C (gdec dt_X10_undo 31 rfl) (i := 0) rfl rfl ?_
      refine g_aload_n C (gdec dt_X10_undo 32 rfl) (i := 0) rfl rfl ?_
      refine g_getiv C kf_X10_91 rfl rfl (gdec dt_X10_undo 33 rfl) (v := ((w.1 0 13) - (1 : Int32))) rfl ?_
      obtain ⟨q9, hq9, hf⟩ := Option.bind_eq_some_iff.mp hf
      refine g_invV [.int ((w.1 0 13) - (1 : Int32))] [] C (c_X10_answer l D cA _ (gCi C) (gput (gput (gI w 0 13 ((w.1 0 13) - (1 : Int32))) e_shX_shBB_14_83 q7) e_shX_shPP_40_96 q8) ((w.1 0 13) - (1 : Int32)) q9 hq9) kT_X10_answer kl_X10_114 kim_X10_answer kse_X10_answer rfl rfl (i := 0) rfl rfl ⟨by decide, by decide⟩ gk0 (Nat.le_of_ble_eq_true rfl) (gdec dt_X10_undo 34 rfl) rfl (st2 := [.int q9.1]) rfl ?_
      cases hf
      exact g_iret C rfl (gdec dt_X10_undo 35 rfl)
    replace hf := (if_neg hc6).symm.trans hf
    by_cases hc10 : ((w.1 0 13) - (1 : Int32)) = (2 : Int32)
    · have hf := (if_pos hc10).symm.trans hf
      refine g_aald4 C (i := 59) (r := 104) rfl (by rw [hc10]; exact gin_k (k := 2) (by decide) (by decide) (by decide)) (by rw [hc10]; decide) (gdec dt_X10_undo 17 rfl) ?_
      refine g_astore_n C (gdec dt_X10_undo 18 rfl) (i := 1) rfl (by decide) (lo2 := [(1, .ref 104), (0, .ref 0)]) rfl ?_
      refine g_aload_n C (gdec dt_X10_undo 19 rfl) (i := 1) rfl rfl ?_
      refine g_ifnull C (gdec dt_X10_undo 20 rfl) ?_
      refine g_aload_n C (gdec dt_X10_undo 21 rfl) (i := 0) rfl rfl ?_
      refine g_getr C (j := 14) kf_X10_26 rfl rfl (gdec dt_X10_undo 22 rfl) ?_
      refine g_aload_n C (gdec dt_X10_undo 23 rfl) (i := 1) rfl rfl ?_
      refine g_getr C (j := 105) kf_X10_460 rfl rfl (gdec dt_X10_undo 24 rfl) ?_
      obtain ⟨q11, hq11, hf⟩ := Option.bind_eq_some_iff.mp hf
      refine g_invVs e_shX_shBB_14_105 [.ref 105] [] C (c_X0_copyFrom l D cA _ (gInj_sub em_e_shX_shBB_14_105 (gCi C)) (gsub (gI w 0 13 ((w.1 0 13) - (1 : Int32))) e_shX_shBB_14_105)  q11 hq11) em_e_shX_shBB_14_105 (by decide) rfl kT_X0_copyFrom kl_X10_183 kim_X0_copyFrom kse_X0_copyFrom rfl rfl (i := 14) rfl rfl ⟨by decide, by decide⟩ gk0 (Nat.le_of_ble_eq_true rfl) (gdec dt_X10_undo 25 rfl) rfl (st2 := []) (w2 := (gput (gI w 0 13 ((w.1 0 13) - (1 : Int32))) e_shX_shBB_14_105 q11)) rfl rfl ?_
      refine g_aload_n C (gdec dt_X10_undo 26 rfl) (i := 0) rfl rfl ?_
      refine g_getr C (j := 40) kf_X10_36 rfl rfl (gdec dt_X10_undo 27 rfl) ?_
      refine g_aload_n C (gdec dt_X10_undo 28 rfl) (i := 1) rfl rfl ?_
      refine g_getr C (j := 118) kf_X10_463 rfl rfl (gdec dt_X10_undo 29 rfl) ?_
      obtain ⟨q12, hq12, hf⟩ := Option.bind_eq_some_iff.mp hf
      refine g_invVs e_shX_shPP_40_118 [.ref 118] [] C (c_X5_copyFrom l D cA _ (gInj_sub em_e_shX_shPP_40_118 (gCi C)) (gsub (gput (gI w 0 13 ((w.1 0 13) - (1 : Int32))) e_shX_shBB_14_105 q11) e_shX_shPP_40_118)  q12 hq12) em_e_shX_shPP_40_118 (by decide) rfl kT_X5_copyFrom kl_X10_196 kim_X5_copyFrom kse_X5_copyFrom rfl rfl (i := 40) rfl rfl ⟨by decide, by decide⟩ gk0 (Nat.le_of_ble_eq_true rfl) (gdec dt_X10_undo 30 rfl) rfl (st2 := []) (w2 := (gput (gput (gI w 0 13 ((w.1 0 13) - (1 : Int32))) e_shX_shBB_14_105 q11) e_shX_shPP_40_118 q12)) rfl rfl ?_
      refine g_aload_n C (gdec dt_X10_undo 31 rfl) (i := 0) rfl rfl ?_
      refine g_aload_n C (gdec dt_X10_undo 32 rfl) (i := 0) rfl rfl ?_
      refine g_getiv C kf_X10_91 rfl rfl (gdec dt_X10_undo 33 rfl) (v := ((w.1 0 13) - (1 : Int32))) rfl ?_
      obtain ⟨q13, hq13, hf⟩ := Option.bind_eq_some_iff.mp hf
      refine g_invV [.int ((w.1 0 13) - (1 : Int32))] [] C (c_X10_answer l D cA _ (gCi C) (gput (gput (gI w 0 13 ((w.1 0 13) - (1 : Int32))) e_shX_shBB_14_105 q11) e_shX_shPP_40_118 q12) ((w.1 0 13) - (1 : Int32)) q13 hq13) kT_X10_answer kl_X10_114 kim_X10_answer kse_X10_answer rfl rfl (i := 0) rfl rfl ⟨by decide, by decide⟩ gk0 (Nat.le_of_ble_eq_true rfl) (gdec dt_X10_undo 34 rfl) rfl (st2 := [.int q13.1]) rfl ?_
      cases hf
      exact g_iret C rfl (gdec dt_X10_undo 35 rfl)
    replace hf := (if_neg hc10).symm.trans hf
    cases hf
  · have hf := (if_neg hc1).symm.trans hf
    refine g_aload_n C (gdec dt_X10_undo 3 rfl) (i := 0) rfl rfl ?_
    refine g_bipush C (gdec dt_X10_undo 4 rfl) bc_6 ?_
    obtain ⟨q14, hq14, hf⟩ := Option.bind_eq_some_iff.mp hf
    refine g_invV [.int (6 : Int32)] [] C (c_X10_refuse l D cA _ (gCi C) w (6 : Int32) q14 hq14) kT_X10_refuse kl_X10_110 kim_X10_refuse kse_X10_refuse rfl rfl (i := 0) rfl rfl ⟨by decide, by decide⟩ gk0 (Nat.le_of_ble_eq_true rfl) (gdec dt_X10_undo 5 rfl) rfl (st2 := [.int q14.1]) rfl ?_
    cases hf
    exact g_iret C rfl (gdec dt_X10_undo 6 rfl)
