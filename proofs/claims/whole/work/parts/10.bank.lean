def tb_X0_clear : List (Nat × Jvm.ClassFile.Instr × Nat) := [(0, .aload_n 0, 1), (1, .iconst 4, 1), (2, .putfield 52, 3), (5, .aload_n 0, 1), (6, .bipush 100, 2), (8, .putfield 56, 3), (11, .aload_n 0, 1), (12, .iconst 0, 1), (13, .putfield 59, 3), (16, .aload_n 0, 1), (17, .iconst 0, 1), (18, .putfield 62, 3), (21, .aload_n 0, 1), (22, .iconst 0, 1), (23, .putfield 65, 3), (26, .aload_n 0, 1), (27, .iconst 0, 1), (28, .putfield 68, 3), (31, .aload_n 0, 1), (32, .iconst 0, 1), (33, .putfield 71, 3), (36, .return_, 1)]
set_option maxRecDepth 100000 in
theorem dt_X0_clear : ∀ q ∈ tb_X0_clear, decode cX0_clear q.1 = .ok q.2 := by decide +kernel
def tb_X0_copyFrom : List (Nat × Jvm.ClassFile.Instr × Nat) := [(0, .aload_n 0, 1), (1, .aload_n 1, 1), (2, .getfield 52, 3), (5, .putfield 52, 3), (8, .aload_n 0, 1), (9, .aload_n 1, 1), (10, .getfield 56, 3), (13, .putfield 56, 3), (16, .aload_n 0, 1), (17, .aload_n 1, 1), (18, .getfield 59, 3), (21, .putfield 59, 3), (24, .aload_n 0, 1), (25, .aload_n 1, 1), (26, .getfield 62, 3), (29, .putfield 62, 3), (32, .aload_n 0, 1), (33, .aload_n 1, 1), (34, .getfield 65, 3), (37, .putfield 65, 3), (40, .aload_n 0, 1), (41, .aload_n 1, 1), (42, .getfield 68, 3), (45, .putfield 68, 3), (48, .aload_n 0, 1), (49, .aload_n 1, 1), (50, .getfield 71, 3), (53, .putfield 71, 3), (56, .aload_n 1, 1), (57, .getfield 9, 3), (60, .iconst 0, 1), (61, .aload_n 0, 1), (62, .getfield 9, 3), (65, .iconst 0, 1), (66, .bipush 7, 2), (68, .invokestatic 74, 3), (71, .aload_n 1, 1), (72, .getfield 15, 3), (75, .iconst 0, 1), (76, .aload_n 0, 1), (77, .getfield 15, 3), (80, .iconst 0, 1), (81, .iconst 5, 1), (82, .invokestatic 74, 3), (85, .aload_n 1, 1), (86, .getfield 18, 3), (89, .iconst 0, 1), (90, .aload_n 0, 1), (91, .getfield 18, 3), (94, .iconst 0, 1), (95, .iconst 5, 1), (96, .invokestatic 74, 3), (99, .aload_n 1, 1), (100, .getfield 21, 3), (103, .iconst 0, 1), (104, .aload_n 0, 1), (105, .getfield 21, 3), (108, .iconst 0, 1), (109, .bipush 6, 2), (111, .invokestatic 74, 3), (114, .aload_n 1, 1), (115, .getfield 25, 3), (118, .iconst 0, 1), (119, .aload_n 0, 1), (120, .getfield 25, 3), (123, .iconst 0, 1), (124, .bipush 6, 2), (126, .invokestatic 74, 3), (129, .aload_n 1, 1), (130, .getfield 28, 3), (133, .iconst 0, 1), (134, .aload_n 0, 1), (135, .getfield 28, 3), (138, .iconst 0, 1), (139, .bipush 6, 2), (141, .invokestatic 74, 3), (144, .aload_n 1, 1), (145, .getfield 31, 3), (148, .iconst 0, 1), (149, .aload_n 0, 1), (150, .getfield 31, 3), (153, .iconst 0, 1), (154, .bipush 6, 2), (156, .invokestatic 74, 3), (159, .aload_n 1, 1), (160, .getfield 34, 3), (163, .iconst 0, 1), (164, .aload_n 0, 1), (165, .getfield 34, 3), (168, .iconst 0, 1), (169, .bipush 6, 2), (171, .invokestatic 74, 3), (174, .aload_n 1, 1), (175, .getfield 37, 3), (178, .iconst 0, 1), (179, .aload_n 0, 1), (180, .getfield 37, 3), (183, .iconst 0, 1), (184, .bipush 6, 2), (186, .invokestatic 74, 3), (189, .aload_n 1, 1), (190, .getfield 40, 3), (193, .iconst 0, 1), (194, .aload_n 0, 1), (195, .getfield 40, 3), (198, .iconst 0, 1), (199, .bipush 6, 2), (201, .invokestatic 74, 3), (204, .aload_n 1, 1), (205, .getfield 43, 3), (208, .iconst 0, 1), (209, .aload_n 0, 1), (210, .getfield 43, 3), (213, .iconst 0, 1), (214, .bipush 8, 2), (216, .invokestatic 74, 3), (219, .aload_n 1, 1), (220, .getfield 46, 3), (223, .iconst 0, 1), (224, .aload_n 0, 1), (225, .getfield 46, 3), (228, .iconst 0, 1), (229, .bipush 8, 2), (231, .invokestatic 74, 3), (234, .return_, 1)]
set_option maxRecDepth 100000 in
theorem dt_X0_copyFrom : ∀ q ∈ tb_X0_copyFrom, decode cX0_copyFrom q.1 = .ok q.2 := by decide +kernel
def tb_X0_hasCorner : List (Nat × Jvm.ClassFile.Instr × Nat) := [(0, .iload_n 1, 1), (1, .ifCond .lt 15, 3), (4, .iload_n 1, 1), (5, .aload_n 0, 1), (6, .getfield 62, 3), (9, .if_icmp .ge 7, 3), (12, .iconst 1, 1), (13, .goto 4, 3), (16, .iconst 0, 1), (17, .ireturn, 1)]
set_option maxRecDepth 100000 in
theorem dt_X0_hasCorner : ∀ q ∈ tb_X0_hasCorner, decode cX0_hasCorner q.1 = .ok q.2 := by decide +kernel
def tb_X0_hasRank : List (Nat × Jvm.ClassFile.Instr × Nat) := [(0, .iload_n 1, 1), (1, .ifCond .lt 15, 3), (4, .iload_n 1, 1), (5, .aload_n 0, 1), (6, .getfield 65, 3), (9, .if_icmp .ge 7, 3), (12, .iconst 1, 1), (13, .goto 4, 3), (16, .iconst 0, 1), (17, .ireturn, 1)]
set_option maxRecDepth 100000 in
theorem dt_X0_hasRank : ∀ q ∈ tb_X0_hasRank, decode cX0_hasRank q.1 = .ok q.2 := by decide +kernel
def tb_X0_hasClerk : List (Nat × Jvm.ClassFile.Instr × Nat) := [(0, .iload_n 1, 1), (1, .ifCond .lt 15, 3), (4, .iload_n 1, 1), (5, .aload_n 0, 1), (6, .getfield 68, 3), (9, .if_icmp .ge 7, 3), (12, .iconst 1, 1), (13, .goto 4, 3), (16, .iconst 0, 1), (17, .ireturn, 1)]
set_option maxRecDepth 100000 in
theorem dt_X0_hasClerk : ∀ q ∈ tb_X0_hasClerk, decode cX0_hasClerk q.1 = .ok q.2 := by decide +kernel
def tb_X0_hasClient : List (Nat × Jvm.ClassFile.Instr × Nat) := [(0, .iload_n 1, 1), (1, .ifCond .lt 15, 3), (4, .iload_n 1, 1), (5, .aload_n 0, 1), (6, .getfield 71, 3), (9, .if_icmp .ge 7, 3), (12, .iconst 1, 1), (13, .goto 4, 3), (16, .iconst 0, 1), (17, .ireturn, 1)]
set_option maxRecDepth 100000 in
theorem dt_X0_hasClient : ∀ q ∈ tb_X0_hasClient, decode cX0_hasClient q.1 = .ok q.2 := by decide +kernel
def tb_X0_addCorner : List (Nat × Jvm.ClassFile.Instr × Nat) := [(0, .aload_n 0, 1), (1, .getfield 62, 3), (4, .bipush 7, 2), (6, .if_icmp .ge 23, 3), (9, .aload_n 0, 1), (10, .getfield 9, 3), (13, .aload_n 0, 1), (14, .getfield 62, 3), (17, .iload_n 1, 1), (18, .iastore, 1), (19, .aload_n 0, 1), (20, .dup, 1), (21, .getfield 62, 3), (24, .iconst 1, 1), (25, .iadd, 1), (26, .putfield 62, 3), (29, .return_, 1)]
set_option maxRecDepth 100000 in
theorem dt_X0_addCorner : ∀ q ∈ tb_X0_addCorner, decode cX0_addCorner q.1 = .ok q.2 := by decide +kernel
def tb_X0_leastNextAt : List (Nat × Jvm.ClassFile.Instr × Nat) := [(0, .aload_n 0, 1), (1, .aload_n 0, 1), (2, .getfield 65, 3), (5, .iconst 1, 1), (6, .isub, 1), (7, .invokevirtual 80, 3), (10, .ifCond .eq 19, 3), (13, .aload_n 0, 1), (14, .getfield 15, 3), (17, .aload_n 0, 1), (18, .getfield 65, 3), (21, .iconst 1, 1), (22, .isub, 1), (23, .iaload, 1), (24, .iconst 1, 1), (25, .iadd, 1), (26, .goto 4, 3), (29, .iconst 0, 1), (30, .ireturn, 1)]
set_option maxRecDepth 100000 in
theorem dt_X0_leastNextAt : ∀ q ∈ tb_X0_leastNextAt, decode cX0_leastNextAt q.1 = .ok q.2 := by decide +kernel
def tb_X0_addRank : List (Nat × Jvm.ClassFile.Instr × Nat) := [(0, .aload_n 0, 1), (1, .getfield 65, 3), (4, .iconst 5, 1), (5, .if_icmp .ge 33, 3), (8, .aload_n 0, 1), (9, .getfield 15, 3), (12, .aload_n 0, 1), (13, .getfield 65, 3), (16, .iload_n 1, 1), (17, .iastore, 1), (18, .aload_n 0, 1), (19, .getfield 18, 3), (22, .aload_n 0, 1), (23, .getfield 65, 3), (26, .iload_n 2, 1), (27, .iastore, 1), (28, .aload_n 0, 1), (29, .dup, 1), (30, .getfield 65, 3), (33, .iconst 1, 1), (34, .iadd, 1), (35, .putfield 65, 3), (38, .return_, 1)]
set_option maxRecDepth 100000 in
theorem dt_X0_addRank : ∀ q ∈ tb_X0_addRank, decode cX0_addRank q.1 = .ok q.2 := by decide +kernel
def tb_X0_addClerk : List (Nat × Jvm.ClassFile.Instr × Nat) := [(0, .aload_n 0, 1), (1, .getfield 68, 3), (4, .bipush 6, 2), (6, .if_icmp .lt 5, 3), (9, .iconst (-1), 1), (10, .ireturn, 1), (11, .aload_n 0, 1), (12, .getfield 21, 3), (15, .aload_n 0, 1), (16, .getfield 68, 3), (19, .lload_n 1, 1), (20, .lastore, 1), (21, .aload_n 0, 1), (22, .getfield 25, 3), (25, .aload_n 0, 1), (26, .getfield 68, 3), (29, .iload_n 3, 1), (30, .iastore, 1), (31, .aload_n 0, 1), (32, .getfield 28, 3), (35, .aload_n 0, 1), (36, .getfield 68, 3), (39, .iconst 0, 1), (40, .iastore, 1), (41, .aload_n 0, 1), (42, .getfield 31, 3), (45, .aload_n 0, 1), (46, .getfield 68, 3), (49, .iconst 0, 1), (50, .iastore, 1), (51, .aload_n 0, 1), (52, .getfield 34, 3), (55, .aload_n 0, 1), (56, .getfield 68, 3), (59, .iconst 0, 1), (60, .iastore, 1), (61, .aload_n 0, 1), (62, .getfield 37, 3), (65, .aload_n 0, 1), (66, .getfield 68, 3), (69, .iconst 0, 1), (70, .iastore, 1), (71, .aload_n 0, 1), (72, .getfield 40, 3), (75, .aload_n 0, 1), (76, .getfield 68, 3), (79, .iconst 0, 1), (80, .iastore, 1), (81, .aload_n 0, 1), (82, .dup, 1), (83, .getfield 68, 3), (86, .iconst 1, 1), (87, .iadd, 1), (88, .putfield 68, 3), (91, .aload_n 0, 1), (92, .getfield 68, 3), (95, .iconst 1, 1), (96, .isub, 1), (97, .ireturn, 1)]
set_option maxRecDepth 100000 in
theorem dt_X0_addClerk : ∀ q ∈ tb_X0_addClerk, decode cX0_addClerk q.1 = .ok q.2 := by decide +kernel
def tb_X0_addClient : List (Nat × Jvm.ClassFile.Instr × Nat) := [(0, .aload_n 0, 1), (1, .getfield 71, 3), (4, .bipush 8, 2), (6, .if_icmp .lt 5, 3), (9, .iconst (-1), 1), (10, .ireturn, 1), (11, .aload_n 0, 1), (12, .getfield 43, 3), (15, .aload_n 0, 1), (16, .getfield 71, 3), (19, .iload_n 1, 1), (20, .iastore, 1), (21, .aload_n 0, 1), (22, .getfield 46, 3), (25, .aload_n 0, 1), (26, .getfield 71, 3), (29, .iload_n 2, 1), (30, .iastore, 1), (31, .aload_n 0, 1), (32, .dup, 1), (33, .getfield 71, 3), (36, .iconst 1, 1), (37, .iadd, 1), (38, .putfield 71, 3), (41, .aload_n 0, 1), (42, .getfield 71, 3), (45, .iconst 1, 1), (46, .isub, 1), (47, .ireturn, 1)]
set_option maxRecDepth 100000 in
theorem dt_X0_addClient : ∀ q ∈ tb_X0_addClient, decode cX0_addClient q.1 = .ok q.2 := by decide +kernel
def tb_X0_sitterIn : List (Nat × Jvm.ClassFile.Instr × Nat) := [(0, .iconst 0, 1), (1, .istore_n 2, 1), (2, .iload_n 2, 1), (3, .aload_n 0, 1), (4, .getfield 68, 3), (7, .if_icmp .ge 21, 3), (10, .aload_n 0, 1), (11, .getfield 25, 3), (14, .iload_n 2, 1), (15, .iaload, 1), (16, .iload_n 1, 1), (17, .if_icmp .ne 5, 3), (20, .iload_n 2, 1), (21, .ireturn, 1), (22, .iinc 2 1, 3), (25, .goto (-23), 3), (28, .iconst (-1), 1), (29, .ireturn, 1)]
set_option maxRecDepth 100000 in
theorem dt_X0_sitterIn : ∀ q ∈ tb_X0_sitterIn, decode cX0_sitterIn q.1 = .ok q.2 := by decide +kernel
def tb_X0_clerkNamed : List (Nat × Jvm.ClassFile.Instr × Nat) := [(0, .iconst 0, 1), (1, .istore_n 3, 1), (2, .iload_n 3, 1), (3, .aload_n 0, 1), (4, .getfield 68, 3), (7, .if_icmp .ge 22, 3), (10, .aload_n 0, 1), (11, .getfield 21, 3), (14, .iload_n 3, 1), (15, .laload, 1), (16, .lload_n 1, 1), (17, .lcmp, 1), (18, .ifCond .ne 5, 3), (21, .iload_n 3, 1), (22, .ireturn, 1), (23, .iinc 3 1, 3), (26, .goto (-24), 3), (29, .iconst (-1), 1), (30, .ireturn, 1)]
set_option maxRecDepth 100000 in
theorem dt_X0_clerkNamed : ∀ q ∈ tb_X0_clerkNamed, decode cX0_clerkNamed q.1 = .ok q.2 := by decide +kernel
def tb_X10_looksBy : List (Nat × Jvm.ClassFile.Instr × Nat) := [(0, .iload_n 0, 1), (1, .iload_n 1, 1), (2, .iadd, 1), (3, .bipush 99, 2), (5, .if_icmp .ge 9, 3), (8, .iload_n 0, 1), (9, .iload_n 1, 1), (10, .iadd, 1), (11, .goto 5, 3), (14, .bipush 99, 2), (16, .ireturn, 1)]
set_option maxRecDepth 100000 in
theorem dt_X10_looksBy : ∀ q ∈ tb_X10_looksBy, decode cX10_looksBy q.1 = .ok q.2 := by decide +kernel
def tb_X0_looksOf : List (Nat × Jvm.ClassFile.Instr × Nat) := [(0, .aload_n 0, 1), (1, .iload_n 1, 1), (2, .invokevirtual 84, 3), (5, .ifCond .eq 21, 3), (8, .aload_n 0, 1), (9, .getfield 31, 3), (12, .iload_n 1, 1), (13, .iaload, 1), (14, .aload_n 0, 1), (15, .getfield 34, 3), (18, .iload_n 1, 1), (19, .iaload, 1), (20, .invokestatic 87, 3), (23, .goto 4, 3), (26, .iconst 0, 1), (27, .ireturn, 1)]
set_option maxRecDepth 100000 in
theorem dt_X0_looksOf : ∀ q ∈ tb_X0_looksOf, decode cX0_looksOf q.1 = .ok q.2 := by decide +kernel
def tb_X0_rankBy : List (Nat × Jvm.ClassFile.Instr × Nat) := [(0, .iconst (-1), 1), (1, .istore_n 2, 1), (2, .iconst 0, 1), (3, .istore_n 3, 1), (4, .iload_n 3, 1), (5, .aload_n 0, 1), (6, .getfield 65, 3), (9, .if_icmp .ge 21, 3), (12, .aload_n 0, 1), (13, .getfield 15, 3), (16, .iload_n 3, 1), (17, .iaload, 1), (18, .iload_n 1, 1), (19, .if_icmp .gt 5, 3), (22, .iload_n 3, 1), (23, .istore_n 2, 1), (24, .iinc 3 1, 3), (27, .goto (-23), 3), (30, .iload_n 2, 1), (31, .ireturn, 1)]
set_option maxRecDepth 100000 in
theorem dt_X0_rankBy : ∀ q ∈ tb_X0_rankBy, decode cX0_rankBy q.1 = .ok q.2 := by decide +kernel
def tb_X0_payBy : List (Nat × Jvm.ClassFile.Instr × Nat) := [(0, .aload_n 0, 1), (1, .iload_n 1, 1), (2, .invokevirtual 91, 3), (5, .istore_n 2, 1), (6, .aload_n 0, 1), (7, .iload_n 2, 1), (8, .invokevirtual 80, 3), (11, .ifCond .eq 12, 3), (14, .aload_n 0, 1), (15, .getfield 18, 3), (18, .iload_n 2, 1), (19, .iaload, 1), (20, .goto 4, 3), (23, .iconst 0, 1), (24, .ireturn, 1)]
set_option maxRecDepth 100000 in
theorem dt_X0_payBy : ∀ q ∈ tb_X0_payBy, decode cX0_payBy q.1 = .ok q.2 := by decide +kernel
def tb_X0_clerksOfRank : List (Nat × Jvm.ClassFile.Instr × Nat) := [(0, .iconst 0, 1), (1, .istore_n 2, 1), (2, .iconst 0, 1), (3, .istore_n 3, 1), (4, .iload_n 3, 1), (5, .aload_n 0, 1), (6, .getfield 68, 3), (9, .if_icmp .ge 28, 3), (12, .aload_n 0, 1), (13, .aload_n 0, 1), (14, .iload_n 3, 1), (15, .invokevirtual 95, 3), (18, .invokevirtual 91, 3), (21, .iload_n 1, 1), (22, .if_icmp .ne 9, 3), (25, .iload_n 2, 1), (26, .iconst 1, 1), (27, .iload_n 3, 1), (28, .ishl, 1), (29, .ior, 1), (30, .istore_n 2, 1), (31, .iinc 3 1, 3), (34, .goto (-30), 3), (37, .iload_n 2, 1), (38, .ireturn, 1)]
set_option maxRecDepth 100000 in
theorem dt_X0_clerksOfRank : ∀ q ∈ tb_X0_clerksOfRank, decode cX0_clerksOfRank q.1 = .ok q.2 := by decide +kernel
def tb_X0_totalOf : List (Nat × Jvm.ClassFile.Instr × Nat) := [(0, .iconst 0, 1), (1, .istore_n 2, 1), (2, .iconst 0, 1), (3, .istore_n 3, 1), (4, .iload_n 3, 1), (5, .aload_n 0, 1), (6, .getfield 68, 3), (9, .if_icmp .ge 21, 3), (12, .iload_n 3, 1), (13, .aload_n 1, 1), (14, .arraylength, 1), (15, .if_icmp .ge 15, 3), (18, .iload_n 2, 1), (19, .aload_n 1, 1), (20, .iload_n 3, 1), (21, .iaload, 1), (22, .iadd, 1), (23, .istore_n 2, 1), (24, .iinc 3 1, 3), (27, .goto (-23), 3), (30, .iload_n 2, 1), (31, .ireturn, 1)]
set_option maxRecDepth 100000 in
theorem dt_X0_totalOf : ∀ q ∈ tb_X0_totalOf, decode cX0_totalOf q.1 = .ok q.2 := by decide +kernel
def tb_X0_greyOfAll : List (Nat × Jvm.ClassFile.Instr × Nat) := [(0, .aload_n 0, 1), (1, .aload_n 0, 1), (2, .getfield 31, 3), (5, .invokevirtual 98, 3), (8, .ireturn, 1)]
set_option maxRecDepth 100000 in
theorem dt_X0_greyOfAll : ∀ q ∈ tb_X0_greyOfAll, decode cX0_greyOfAll q.1 = .ok q.2 := by decide +kernel
def tb_X0_paidOfAll : List (Nat × Jvm.ClassFile.Instr × Nat) := [(0, .aload_n 0, 1), (1, .aload_n 0, 1), (2, .getfield 37, 3), (5, .invokevirtual 98, 3), (8, .ireturn, 1)]
set_option maxRecDepth 100000 in
theorem dt_X0_paidOfAll : ∀ q ∈ tb_X0_paidOfAll, decode cX0_paidOfAll q.1 = .ok q.2 := by decide +kernel
def tb_X0_unpaidOfAll : List (Nat × Jvm.ClassFile.Instr × Nat) := [(0, .aload_n 0, 1), (1, .aload_n 0, 1), (2, .getfield 40, 3), (5, .invokevirtual 98, 3), (8, .ireturn, 1)]
set_option maxRecDepth 100000 in
theorem dt_X0_unpaidOfAll : ∀ q ∈ tb_X0_unpaidOfAll, decode cX0_unpaidOfAll q.1 = .ok q.2 := by decide +kernel
def tb_X10_greyGrown : List (Nat × Jvm.ClassFile.Instr × Nat) := [(0, .iload_n 0, 1), (1, .iload_n 1, 1), (2, .iload_n 2, 1), (3, .imul, 1), (4, .iadd, 1), (5, .istore_n 3, 1), (6, .iload_n 3, 1), (7, .bipush 99, 2), (9, .if_icmp .ge 7, 3), (12, .iload_n 3, 1), (13, .goto 5, 3), (16, .bipush 99, 2), (18, .ireturn, 1)]
set_option maxRecDepth 100000 in
theorem dt_X10_greyGrown : ∀ q ∈ tb_X10_greyGrown, decode cX10_greyGrown q.1 = .ok q.2 := by decide +kernel
def tb_X0_greyStaying : List (Nat × Jvm.ClassFile.Instr × Nat) := [(0, .aload_n 0, 1), (1, .iload_n 1, 1), (2, .invokevirtual 84, 3), (5, .ifCond .eq 16, 3), (8, .aload_n 0, 1), (9, .aload_n 0, 1), (10, .getfield 25, 3), (13, .iload_n 1, 1), (14, .iaload, 1), (15, .invokevirtual 102, 3), (18, .ifCond .ne 5, 3), (21, .iconst 0, 1), (22, .ireturn, 1), (23, .aload_n 0, 1), (24, .getfield 31, 3), (27, .iload_n 1, 1), (28, .iaload, 1), (29, .aload_n 0, 1), (30, .getfield 9, 3), (33, .aload_n 0, 1), (34, .getfield 25, 3), (37, .iload_n 1, 1), (38, .iaload, 1), (39, .iaload, 1), (40, .iload_n 2, 1), (41, .invokestatic 105, 3), (44, .ireturn, 1)]
set_option maxRecDepth 100000 in
theorem dt_X0_greyStaying : ∀ q ∈ tb_X0_greyStaying, decode cX0_greyStaying q.1 = .ok q.2 := by decide +kernel
def tb_X0_greySeated : List (Nat × Jvm.ClassFile.Instr × Nat) := [(0, .aload_n 0, 1), (1, .iload_n 1, 1), (2, .invokevirtual 84, 3), (5, .ifCond .eq 11, 3), (8, .aload_n 0, 1), (9, .iload_n 2, 1), (10, .invokevirtual 102, 3), (13, .ifCond .ne 5, 3), (16, .iconst 0, 1), (17, .ireturn, 1), (18, .aload_n 0, 1), (19, .getfield 25, 3), (22, .iload_n 1, 1), (23, .iaload, 1), (24, .iload_n 2, 1), (25, .if_icmp .ne 12, 3), (28, .aload_n 0, 1), (29, .getfield 31, 3), (32, .iload_n 1, 1), (33, .iaload, 1), (34, .goto 11, 3), (37, .aload_n 0, 1), (38, .getfield 31, 3), (41, .iload_n 1, 1), (42, .iaload, 1), (43, .iconst 2, 1), (44, .idiv, 1), (45, .istore 4, 2), (47, .iload 4, 2), (49, .aload_n 0, 1), (50, .getfield 9, 3), (53, .iload_n 2, 1), (54, .iaload, 1), (55, .iload_n 3, 1), (56, .invokestatic 105, 3), (59, .ireturn, 1)]
set_option maxRecDepth 100000 in
theorem dt_X0_greySeated : ∀ q ∈ tb_X0_greySeated, decode cX0_greySeated q.1 = .ok q.2 := by decide +kernel
def tb_X0_passYear : List (Nat × Jvm.ClassFile.Instr × Nat) := [(0, .iconst 0, 1), (1, .istore_n 1, 1), (2, .iconst 0, 1), (3, .istore_n 2, 1), (4, .iload_n 2, 1), (5, .aload_n 0, 1), (6, .getfield 68, 3), (9, .if_icmp .ge 96, 3), (12, .aload_n 0, 1), (13, .aload_n 0, 1), (14, .iload_n 2, 1), (15, .invokevirtual 95, 3), (18, .invokevirtual 113, 3), (21, .istore_n 3, 1), (22, .iload_n 3, 1), (23, .aload_n 0, 1), (24, .getfield 56, 3), (27, .if_icmp .gt 30, 3), (30, .aload_n 0, 1), (31, .dup, 1), (32, .getfield 56, 3), (35, .iload_n 3, 1), (36, .isub, 1), (37, .putfield 56, 3), (40, .aload_n 0, 1), (41, .getfield 37, 3), (44, .iload_n 2, 1), (45, .dup2, 1), (46, .iaload, 1), (47, .iload_n 3, 1), (48, .iadd, 1), (49, .iastore, 1), (50, .iload_n 1, 1), (51, .iload_n 3, 1), (52, .iadd, 1), (53, .istore_n 1, 1), (54, .goto 13, 3), (57, .aload_n 0, 1), (58, .getfield 40, 3), (61, .iload_n 2, 1), (62, .dup2, 1), (63, .iaload, 1), (64, .iconst 1, 1), (65, .iadd, 1), (66, .iastore, 1), (67, .aload_n 0, 1), (68, .getfield 28, 3), (71, .iload_n 2, 1), (72, .sipush 999, 3), (75, .aload_n 0, 1), (76, .getfield 28, 3), (79, .iload_n 2, 1), (80, .iaload, 1), (81, .iconst 1, 1), (82, .iadd, 1), (83, .invokestatic 116, 3), (86, .iastore, 1), (87, .aload_n 0, 1), (88, .getfield 31, 3), (91, .iload_n 2, 1), (92, .aload_n 0, 1), (93, .iload_n 2, 1), (94, .iconst 1, 1), (95, .invokevirtual 121, 3), (98, .iastore, 1), (99, .iinc 2 1, 3), (102, .goto (-98), 3), (105, .aload_n 0, 1), (106, .dup, 1), (107, .getfield 59, 3), (110, .iconst 1, 1), (111, .iadd, 1), (112, .putfield 59, 3), (115, .iload_n 1, 1), (116, .ireturn, 1)]
set_option maxRecDepth 100000 in
theorem dt_X0_passYear : ∀ q ∈ tb_X0_passYear, decode cX0_passYear q.1 = .ok q.2 := by decide +kernel
def tb_X0_passYears : List (Nat × Jvm.ClassFile.Instr × Nat) := [(0, .aload_n 0, 1), (1, .getfield 59, 3), (4, .iload_n 1, 1), (5, .iadd, 1), (6, .sipush 9999, 3), (9, .if_icmp .le 5, 3), (12, .iconst (-1), 1), (13, .ireturn, 1), (14, .iconst 0, 1), (15, .istore_n 2, 1), (16, .iconst 0, 1), (17, .istore_n 3, 1), (18, .iload_n 3, 1), (19, .iload_n 1, 1), (20, .if_icmp .ge 16, 3), (23, .iload_n 2, 1), (24, .aload_n 0, 1), (25, .invokevirtual 109, 3), (28, .iadd, 1), (29, .istore_n 2, 1), (30, .iinc 3 1, 3), (33, .goto (-15), 3), (36, .iload_n 2, 1), (37, .ireturn, 1)]
set_option maxRecDepth 100000 in
theorem dt_X0_passYears : ∀ q ∈ tb_X0_passYears, decode cX0_passYears q.1 = .ok q.2 := by decide +kernel
def tb_X0_loseHalf : List (Nat × Jvm.ClassFile.Instr × Nat) := [(0, .aload_n 0, 1), (1, .iload_n 1, 1), (2, .invokevirtual 84, 3), (5, .ifCond .eq 24, 3), (8, .aload_n 0, 1), (9, .getfield 31, 3), (12, .iload_n 1, 1), (13, .aload_n 0, 1), (14, .getfield 31, 3), (17, .iload_n 1, 1), (18, .iaload, 1), (19, .iconst 2, 1), (20, .idiv, 1), (21, .iastore, 1), (22, .aload_n 0, 1), (23, .getfield 34, 3), (26, .iload_n 1, 1), (27, .iconst 0, 1), (28, .iastore, 1), (29, .return_, 1)]
set_option maxRecDepth 100000 in
theorem dt_X0_loseHalf : ∀ q ∈ tb_X0_loseHalf, decode cX0_loseHalf q.1 = .ok q.2 := by decide +kernel
def tb_X0_seatElsewhere : List (Nat × Jvm.ClassFile.Instr × Nat) := [(0, .aload_n 0, 1), (1, .iload_n 1, 1), (2, .invokevirtual 84, 3), (5, .ifCond .eq 20, 3), (8, .aload_n 0, 1), (9, .iload_n 2, 1), (10, .invokevirtual 102, 3), (13, .ifCond .eq 12, 3), (16, .aload_n 0, 1), (17, .iload_n 2, 1), (18, .invokevirtual 124, 3), (21, .iconst (-1), 1), (22, .if_icmp .eq 5, 3), (25, .iconst (-1), 1), (26, .ireturn, 1), (27, .aload_n 0, 1), (28, .getfield 25, 3), (31, .iload_n 1, 1), (32, .iload_n 2, 1), (33, .iastore, 1), (34, .aload_n 0, 1), (35, .iload_n 1, 1), (36, .invokevirtual 127, 3), (39, .aload_n 0, 1), (40, .getfield 31, 3), (43, .iload_n 1, 1), (44, .iaload, 1), (45, .ireturn, 1)]
set_option maxRecDepth 100000 in
theorem dt_X0_seatElsewhere : ∀ q ∈ tb_X0_seatElsewhere, decode cX0_seatElsewhere q.1 = .ok q.2 := by decide +kernel
def tb_X0_exchange : List (Nat × Jvm.ClassFile.Instr × Nat) := [(0, .aload_n 0, 1), (1, .iload_n 1, 1), (2, .invokevirtual 84, 3), (5, .ifCond .eq 16, 3), (8, .aload_n 0, 1), (9, .iload_n 2, 1), (10, .invokevirtual 84, 3), (13, .ifCond .eq 8, 3), (16, .iload_n 1, 1), (17, .iload_n 2, 1), (18, .if_icmp .ne 5, 3), (21, .iconst (-1), 1), (22, .ireturn, 1), (23, .aload_n 0, 1), (24, .getfield 25, 3), (27, .iload_n 1, 1), (28, .iaload, 1), (29, .istore_n 3, 1), (30, .aload_n 0, 1), (31, .getfield 25, 3), (34, .iload_n 1, 1), (35, .aload_n 0, 1), (36, .getfield 25, 3), (39, .iload_n 2, 1), (40, .iaload, 1), (41, .iastore, 1), (42, .aload_n 0, 1), (43, .getfield 25, 3), (46, .iload_n 2, 1), (47, .iload_n 3, 1), (48, .iastore, 1), (49, .aload_n 0, 1), (50, .iload_n 1, 1), (51, .invokevirtual 127, 3), (54, .aload_n 0, 1), (55, .iload_n 2, 1), (56, .invokevirtual 127, 3), (59, .aload_n 0, 1), (60, .getfield 31, 3), (63, .iload_n 1, 1), (64, .iaload, 1), (65, .aload_n 0, 1), (66, .getfield 31, 3), (69, .iload_n 2, 1), (70, .iaload, 1), (71, .iadd, 1), (72, .ireturn, 1)]
set_option maxRecDepth 100000 in
theorem dt_X0_exchange : ∀ q ∈ tb_X0_exchange, decode cX0_exchange q.1 = .ok q.2 := by decide +kernel
def tb_X0_addSham : List (Nat × Jvm.ClassFile.Instr × Nat) := [(0, .aload_n 0, 1), (1, .iload_n 1, 1), (2, .invokevirtual 84, 3), (5, .ifCond .eq 14, 3), (8, .aload_n 0, 1), (9, .getfield 34, 3), (12, .iload_n 1, 1), (13, .iaload, 1), (14, .bipush 99, 2), (16, .if_icmp .lt 5, 3), (19, .iconst (-1), 1), (20, .ireturn, 1), (21, .aload_n 0, 1), (22, .getfield 34, 3), (25, .iload_n 1, 1), (26, .bipush 99, 2), (28, .aload_n 0, 1), (29, .getfield 34, 3), (32, .iload_n 1, 1), (33, .iaload, 1), (34, .iload_n 2, 1), (35, .iadd, 1), (36, .invokestatic 116, 3), (39, .iastore, 1), (40, .aload_n 0, 1), (41, .getfield 34, 3), (44, .iload_n 1, 1), (45, .iaload, 1), (46, .ireturn, 1)]
set_option maxRecDepth 100000 in
theorem dt_X0_addSham : ∀ q ∈ tb_X0_addSham, decode cX0_addSham q.1 = .ok q.2 := by decide +kernel
def tb_X0_wipe : List (Nat × Jvm.ClassFile.Instr × Nat) := [(0, .aload_n 0, 1), (1, .iload_n 1, 1), (2, .invokevirtual 84, 3), (5, .ifCond .eq 19, 3), (8, .aload_n 0, 1), (9, .getfield 31, 3), (12, .iload_n 1, 1), (13, .iaload, 1), (14, .aload_n 0, 1), (15, .getfield 34, 3), (18, .iload_n 1, 1), (19, .iaload, 1), (20, .iadd, 1), (21, .ifCond .ne 5, 3), (24, .iconst (-1), 1), (25, .ireturn, 1), (26, .aload_n 0, 1), (27, .getfield 31, 3), (30, .iload_n 1, 1), (31, .iaload, 1), (32, .aload_n 0, 1), (33, .getfield 34, 3), (36, .iload_n 1, 1), (37, .iaload, 1), (38, .iadd, 1), (39, .istore_n 2, 1), (40, .aload_n 0, 1), (41, .getfield 31, 3), (44, .iload_n 1, 1), (45, .iconst 0, 1), (46, .iastore, 1), (47, .aload_n 0, 1), (48, .getfield 34, 3), (51, .iload_n 1, 1), (52, .iconst 0, 1), (53, .iastore, 1), (54, .iload_n 2, 1), (55, .ireturn, 1)]
set_option maxRecDepth 100000 in
theorem dt_X0_wipe : ∀ q ∈ tb_X0_wipe, decode cX0_wipe q.1 = .ok q.2 := by decide +kernel
def tb_X0_exposeSham : List (Nat × Jvm.ClassFile.Instr × Nat) := [(0, .aload_n 0, 1), (1, .iload_n 1, 1), (2, .invokevirtual 84, 3), (5, .ifCond .eq 12, 3), (8, .aload_n 0, 1), (9, .getfield 34, 3), (12, .iload_n 1, 1), (13, .iaload, 1), (14, .ifCond .ne 5, 3), (17, .iconst (-1), 1), (18, .ireturn, 1), (19, .aload_n 0, 1), (20, .getfield 34, 3), (23, .iload_n 1, 1), (24, .iaload, 1), (25, .istore_n 2, 1), (26, .aload_n 0, 1), (27, .getfield 34, 3), (30, .iload_n 1, 1), (31, .iconst 0, 1), (32, .iastore, 1), (33, .iload_n 2, 1), (34, .ireturn, 1)]
set_option maxRecDepth 100000 in
theorem dt_X0_exposeSham : ∀ q ∈ tb_X0_exposeSham, decode cX0_exposeSham q.1 = .ok q.2 := by decide +kernel
def tb_X0_comingWithout : List (Nat × Jvm.ClassFile.Instr × Nat) := [(0, .iconst 0, 1), (1, .istore_n 2, 1), (2, .iconst 0, 1), (3, .istore_n 3, 1), (4, .iconst 1, 1), (5, .istore 4, 2), (7, .iconst 0, 1), (8, .istore 5, 2), (10, .iload 5, 2), (12, .aload_n 0, 1), (13, .getfield 71, 3), (16, .if_icmp .ge 79, 3), (19, .iload 4, 2), (21, .ifCond .eq 74, 3), (24, .iconst 0, 1), (25, .istore 4, 2), (27, .iconst 0, 1), (28, .istore 6, 2), (30, .iload 6, 2), (32, .aload_n 0, 1), (33, .getfield 71, 3), (36, .if_icmp .ge 53, 3), (39, .iconst 1, 1), (40, .iload 6, 2), (42, .ishl, 1), (43, .istore 7, 2), (45, .iload_n 2, 1), (46, .iload_n 1, 1), (47, .ior, 1), (48, .iload 7, 2), (50, .iand, 1), (51, .ifCond .ne 32, 3), (54, .aload_n 0, 1), (55, .getfield 46, 3), (58, .iload 6, 2), (60, .iaload, 1), (61, .iload_n 3, 1), (62, .if_icmp .gt 21, 3), (65, .iload_n 2, 1), (66, .iload 7, 2), (68, .ior, 1), (69, .istore_n 2, 1), (70, .iload_n 3, 1), (71, .aload_n 0, 1), (72, .getfield 43, 3), (75, .iload 6, 2), (77, .iaload, 1), (78, .iadd, 1), (79, .istore_n 3, 1), (80, .iconst 1, 1), (81, .istore 4, 2), (83, .iinc 6 1, 3), (86, .goto (-56), 3), (89, .iinc 5 1, 3), (92, .goto (-82), 3), (95, .iload_n 2, 1), (96, .ireturn, 1)]
set_option maxRecDepth 100000 in
theorem dt_X0_comingWithout : ∀ q ∈ tb_X0_comingWithout, decode cX0_comingWithout q.1 = .ok q.2 := by decide +kernel
def tb_X0_sumOf : List (Nat × Jvm.ClassFile.Instr × Nat) := [(0, .iconst 0, 1), (1, .istore_n 2, 1), (2, .iconst 0, 1), (3, .istore_n 3, 1), (4, .iload_n 3, 1), (5, .aload_n 0, 1), (6, .getfield 71, 3), (9, .if_icmp .ge 26, 3), (12, .iload_n 1, 1), (13, .iconst 1, 1), (14, .iload_n 3, 1), (15, .ishl, 1), (16, .iand, 1), (17, .ifCond .eq 12, 3), (20, .iload_n 2, 1), (21, .aload_n 0, 1), (22, .getfield 43, 3), (25, .iload_n 3, 1), (26, .iaload, 1), (27, .iadd, 1), (28, .istore_n 2, 1), (29, .iinc 3 1, 3), (32, .goto (-28), 3), (35, .iload_n 2, 1), (36, .ireturn, 1)]
set_option maxRecDepth 100000 in
theorem dt_X0_sumOf : ∀ q ∈ tb_X0_sumOf, decode cX0_sumOf q.1 = .ok q.2 := by decide +kernel
def tb_X0_payComing : List (Nat × Jvm.ClassFile.Instr × Nat) := [(0, .aload_n 0, 1), (1, .iconst 0, 1), (2, .invokevirtual 131, 3), (5, .istore_n 1, 1), (6, .iload_n 1, 1), (7, .ifCond .ne 5, 3), (10, .iconst (-1), 1), (11, .ireturn, 1), (12, .iconst 0, 1), (13, .istore_n 2, 1), (14, .iconst 0, 1), (15, .istore_n 3, 1), (16, .iconst 0, 1), (17, .istore 4, 2), (19, .iload 4, 2), (21, .aload_n 0, 1), (22, .getfield 71, 3), (25, .if_icmp .ge 90, 3), (28, .iload_n 1, 1), (29, .iconst 1, 1), (30, .iload 4, 2), (32, .ishl, 1), (33, .iand, 1), (34, .ifCond .eq 46, 3), (37, .aload_n 0, 1), (38, .getfield 43, 3), (41, .iload 4, 2), (43, .iaload, 1), (44, .aload_n 0, 1), (45, .getfield 56, 3), (48, .if_icmp .gt 32, 3), (51, .aload_n 0, 1), (52, .dup, 1), (53, .getfield 56, 3), (56, .aload_n 0, 1), (57, .getfield 43, 3), (60, .iload 4, 2), (62, .iaload, 1), (63, .isub, 1), (64, .putfield 56, 3), (67, .iload_n 2, 1), (68, .aload_n 0, 1), (69, .getfield 43, 3), (72, .iload 4, 2), (74, .iaload, 1), (75, .iadd, 1), (76, .istore_n 2, 1), (77, .goto 32, 3), (80, .aload_n 0, 1), (81, .getfield 43, 3), (84, .iload_n 3, 1), (85, .aload_n 0, 1), (86, .getfield 43, 3), (89, .iload 4, 2), (91, .iaload, 1), (92, .iastore, 1), (93, .aload_n 0, 1), (94, .getfield 46, 3), (97, .iload_n 3, 1), (98, .aload_n 0, 1), (99, .getfield 46, 3), (102, .iload 4, 2), (104, .iaload, 1), (105, .iastore, 1), (106, .iinc 3 1, 3), (109, .iinc 4 1, 3), (112, .goto (-93), 3), (115, .aload_n 0, 1), (116, .iload_n 3, 1), (117, .putfield 71, 3), (120, .iload_n 2, 1), (121, .ireturn, 1)]
set_option maxRecDepth 100000 in
theorem dt_X0_payComing : ∀ q ∈ tb_X0_payComing, decode cX0_payComing q.1 = .ok q.2 := by decide +kernel
def tb_J6_bitCount_0f7a4 : List (Nat × Jvm.ClassFile.Instr × Nat) := [(0, .iload_n 0, 1), (1, .iload_n 0, 1), (2, .iconst 1, 1), (3, .iushr, 1), (4, .ldc_w 265, 3), (7, .iand, 1), (8, .isub, 1), (9, .istore_n 0, 1), (10, .iload_n 0, 1), (11, .ldc_w 266, 3), (14, .iand, 1), (15, .iload_n 0, 1), (16, .iconst 2, 1), (17, .iushr, 1), (18, .ldc_w 266, 3), (21, .iand, 1), (22, .iadd, 1), (23, .istore_n 0, 1), (24, .iload_n 0, 1), (25, .iload_n 0, 1), (26, .iconst 4, 1), (27, .iushr, 1), (28, .iadd, 1), (29, .ldc_w 267, 3), (32, .iand, 1), (33, .istore_n 0, 1), (34, .iload_n 0, 1), (35, .iload_n 0, 1), (36, .bipush 8, 2), (38, .iushr, 1), (39, .iadd, 1), (40, .istore_n 0, 1), (41, .iload_n 0, 1), (42, .iload_n 0, 1), (43, .bipush 16, 2), (45, .iushr, 1), (46, .iadd, 1), (47, .istore_n 0, 1), (48, .iload_n 0, 1), (49, .bipush 63, 2), (51, .iand, 1), (52, .ireturn, 1)]
set_option maxRecDepth 100000 in
theorem dt_J6_bitCount_0f7a4 : ∀ q ∈ tb_J6_bitCount_0f7a4, decode cJ6_bitCount_0f7a4 q.1 = .ok q.2 := by decide +kernel
def F_X0_clear (w : GW) : Option GW := (some (gI (gI (gI (gI (gI (gI (gI w 0 0 (4 : Int32)) 0 1 (100 : Int32)) 0 2 (0 : Int32)) 0 3 (0 : Int32)) 0 4 (0 : Int32)) 0 5 (0 : Int32)) 0 6 (0 : Int32)))
def F_X0_copyFrom (w : GW) : Option GW := (some (gcpI (gcpI (gcpI (gcpI (gcpI (gcpI (gcpI (gcpI (gcpL (gcpI (gcpI (gcpI (gI (gI (gI (gI (gI (gI (gI w 0 0 (w.1 13 0)) 0 1 (w.1 13 1)) 0 2 (w.1 13 2)) 0 3 (w.1 13 3)) 0 4 (w.1 13 4)) 0 5 (w.1 13 5)) 0 6 (w.1 13 6)) 14 1 0 0 7) 15 2 0 0 5) 16 3 0 0 5) 17 4 0 0 6) 18 5 0 0 6) 19 6 0 0 6) 20 7 0 0 6) 21 8 0 0 6) 22 9 0 0 6) 23 10 0 0 6) 24 11 0 0 8) 25 12 0 0 8))
def F_X0_hasCorner (w : GW) (x1 : Int32) : Option Int32 := (if x1 < 0 then (some (0 : Int32)) else (if (w.1 0 3) ≤ x1 then (some (0 : Int32)) else (some (1 : Int32))))
def F_X0_hasRank (w : GW) (x1 : Int32) : Option Int32 := (if x1 < 0 then (some (0 : Int32)) else (if (w.1 0 4) ≤ x1 then (some (0 : Int32)) else (some (1 : Int32))))
def F_X0_hasClerk (w : GW) (x1 : Int32) : Option Int32 := (if x1 < 0 then (some (0 : Int32)) else (if (w.1 0 5) ≤ x1 then (some (0 : Int32)) else (some (1 : Int32))))
def F_X0_hasClient (w : GW) (x1 : Int32) : Option Int32 := (if x1 < 0 then (some (0 : Int32)) else (if (w.1 0 6) ≤ x1 then (some (0 : Int32)) else (some (1 : Int32))))
def F_X0_addCorner (x1 : Int32) (w : GW) : Option GW := (if (7 : Int32) ≤ (w.1 0 3) then (some w) else (if gin (w.1 0 3) 7 then (some (gI (gI w 1 (w.1 0 3).toNatClampNeg x1) 0 3 ((w.1 0 3) + (1 : Int32)))) else none))
def F_X0_leastNextAt (w : GW) : Option Int32 := ((F_X0_hasRank w ((w.1 0 4) - (1 : Int32))).bind fun q1 => (if q1 = 0 then (some (0 : Int32)) else (if gin ((w.1 0 4) - (1 : Int32)) 5 then (some ((w.1 2 ((w.1 0 4) - (1 : Int32)).toNatClampNeg) + (1 : Int32))) else none)))
def F_X0_addRank (x1 : Int32) (x2 : Int32) (w : GW) : Option GW := (if (5 : Int32) ≤ (w.1 0 4) then (some w) else (if gin (w.1 0 4) 5 then (some (gI (gI (gI w 2 (w.1 0 4).toNatClampNeg x1) 3 (w.1 0 4).toNatClampNeg x2) 0 4 ((w.1 0 4) + (1 : Int32)))) else none))
def F_X0_addClerk (x1 : Int64) (x3 : Int32) (w : GW) : Option (Int32 × GW) := (if (w.1 0 5) < (6 : Int32) then (if gin (w.1 0 5) 6 then (some ((((w.1 0 5) + (1 : Int32)) - (1 : Int32)), (gI (gI (gI (gI (gI (gI (gI (gL w 4 (w.1 0 5).toNatClampNeg x1) 5 (w.1 0 5).toNatClampNeg x3) 6 (w.1 0 5).toNatClampNeg (0 : Int32)) 7 (w.1 0 5).toNatClampNeg (0 : Int32)) 8 (w.1 0 5).toNatClampNeg (0 : Int32)) 9 (w.1 0 5).toNatClampNeg (0 : Int32)) 10 (w.1 0 5).toNatClampNeg (0 : Int32)) 0 5 ((w.1 0 5) + (1 : Int32))))) else none) else (some ((-1 : Int32), w)))
def F_X0_addClient (x1 : Int32) (x2 : Int32) (w : GW) : Option (Int32 × GW) := (if (w.1 0 6) < (8 : Int32) then (if gin (w.1 0 6) 8 then (some ((((w.1 0 6) + (1 : Int32)) - (1 : Int32)), (gI (gI (gI w 11 (w.1 0 6).toNatClampNeg x1) 12 (w.1 0 6).toNatClampNeg x2) 0 6 ((w.1 0 6) + (1 : Int32))))) else none) else (some ((-1 : Int32), w)))
def b_X0_sitterIn_2 (k2 : Int32 → Int32 → Option Int32) (w : GW) (x1 : Int32) (x2 : Int32) : Option Int32 := (if (w.1 0 5) ≤ x2 then (some (-1 : Int32)) else (if gin x2 6 then (if (w.1 5 x2.toNatClampNeg) = x1 then (some x2) else (k2 x1 (x2 + (1 : Int32)))) else none))
def f_X0_sitterIn_2 (w : GW) : Nat → Int32 → Int32 → Option Int32
  | 0, _, _ => none
  | n + 1, x1, x2 => b_X0_sitterIn_2 (f_X0_sitterIn_2 w n) w x1 x2
def F_X0_sitterIn (w : GW) (x1 : Int32) : Option Int32 := (f_X0_sitterIn_2 w FU x1 (0 : Int32))
def b_X0_clerkNamed_2 (k2 : Int64 → Int32 → Option Int32) (w : GW) (x1 : Int64) (x3 : Int32) : Option Int32 := (if (w.1 0 5) ≤ x3 then (some (-1 : Int32)) else (if gin x3 6 then (if (lg_cmp (w.2 4 x3.toNatClampNeg) x1) = 0 then (some x3) else (k2 x1 (x3 + (1 : Int32)))) else none))
def f_X0_clerkNamed_2 (w : GW) : Nat → Int64 → Int32 → Option Int32
  | 0, _, _ => none
  | n + 1, x1, x3 => b_X0_clerkNamed_2 (f_X0_clerkNamed_2 w n) w x1 x3
def F_X0_clerkNamed (w : GW) (x1 : Int64) : Option Int32 := (f_X0_clerkNamed_2 w FU x1 (0 : Int32))
def F_X10_looksBy (x0 : Int32) (x1 : Int32) : Option Int32 := (if (99 : Int32) ≤ (x0 + x1) then (some (99 : Int32)) else (some (x0 + x1)))
def F_X0_looksOf (w : GW) (x1 : Int32) : Option Int32 := ((F_X0_hasClerk w x1).bind fun q1 => (if q1 = 0 then (some (0 : Int32)) else (if gin x1 6 then ((F_X10_looksBy (w.1 7 x1.toNatClampNeg) (w.1 8 x1.toNatClampNeg)).bind fun q4 => (some q4)) else none)))
def f_X0_rankBy_24 (k4 : Int32 → Int32 → Int32 → Option Int32) (w : GW) (x1 : Int32) (x2 : Int32) (x3 : Int32) : Option Int32 := (k4 x1 x2 (x3 + (1 : Int32)))
def b_X0_rankBy_4 (k4 : Int32 → Int32 → Int32 → Option Int32) (w : GW) (x1 : Int32) (x2 : Int32) (x3 : Int32) : Option Int32 := (if (w.1 0 4) ≤ x3 then (some x2) else (if gin x3 5 then (if x1 < (w.1 2 x3.toNatClampNeg) then (f_X0_rankBy_24 k4 w x1 x2 x3) else (f_X0_rankBy_24 k4 w x1 x3 x3)) else none))
def f_X0_rankBy_4 (w : GW) : Nat → Int32 → Int32 → Int32 → Option Int32
  | 0, _, _, _ => none
  | n + 1, x1, x2, x3 => b_X0_rankBy_4 (f_X0_rankBy_4 w n) w x1 x2 x3
def F_X0_rankBy (w : GW) (x1 : Int32) : Option Int32 := (f_X0_rankBy_4 w FU x1 (-1 : Int32) (0 : Int32))
def F_X0_payBy (w : GW) (x1 : Int32) : Option Int32 := ((F_X0_rankBy w x1).bind fun q1 => ((F_X0_hasRank w q1).bind fun q2 => (if q2 = 0 then (some (0 : Int32)) else (if gin q1 5 then (some (w.1 3 q1.toNatClampNeg)) else none))))
def f_X0_clerksOfRank_31 (k4 : Int32 → Int32 → Int32 → Option Int32) (w : GW) (x1 : Int32) (x2 : Int32) (x3 : Int32) : Option Int32 := (k4 x1 x2 (x3 + (1 : Int32)))
def b_X0_clerksOfRank_4 (k4 : Int32 → Int32 → Int32 → Option Int32) (w : GW) (x1 : Int32) (x2 : Int32) (x3 : Int32) : Option Int32 := (if (w.1 0 5) ≤ x3 then (some x2) else ((F_X0_looksOf w x3).bind fun q2 => ((F_X0_rankBy w q2).bind fun q3 => (if q3 = x1 then (f_X0_clerksOfRank_31 k4 w x1 (x2 ||| ((1 : Int32) <<< (x3 &&& 31))) x3) else (f_X0_clerksOfRank_31 k4 w x1 x2 x3)))))
def f_X0_clerksOfRank_4 (w : GW) : Nat → Int32 → Int32 → Int32 → Option Int32
  | 0, _, _, _ => none
  | n + 1, x1, x2, x3 => b_X0_clerksOfRank_4 (f_X0_clerksOfRank_4 w n) w x1 x2 x3
def F_X0_clerksOfRank (w : GW) (x1 : Int32) : Option Int32 := (f_X0_clerksOfRank_4 w FU x1 (0 : Int32) (0 : Int32))
def b_X0_totalOf_4 (k4 : Int32 → Int32 → Option Int32) (a1 : Nat) (w : GW) (x2 : Int32) (x3 : Int32) : Option Int32 := (if (w.1 0 5) ≤ x3 then (some x2) else (if (6 : Int32) ≤ x3 then (some x2) else (if gin x3 6 then (k4 (x2 + (w.1 a1 x3.toNatClampNeg)) (x3 + (1 : Int32))) else none)))
def f_X0_totalOf_4 (a1 : Nat) (w : GW) : Nat → Int32 → Int32 → Option Int32
  | 0, _, _ => none
  | n + 1, x2, x3 => b_X0_totalOf_4 (f_X0_totalOf_4 a1 w n) a1 w x2 x3
def F_X0_totalOf (a1 : Nat) (w : GW) : Option Int32 := (f_X0_totalOf_4 a1 w FU (0 : Int32) (0 : Int32))
def F_X0_greyOfAll (w : GW) : Option Int32 := ((F_X0_totalOf 7 w).bind fun q1 => (some q1))
def F_X0_paidOfAll (w : GW) : Option Int32 := ((F_X0_totalOf 9 w).bind fun q1 => (some q1))
def F_X0_unpaidOfAll (w : GW) : Option Int32 := ((F_X0_totalOf 10 w).bind fun q1 => (some q1))
def F_X10_greyGrown (x0 : Int32) (x1 : Int32) (x2 : Int32) : Option Int32 := (if (99 : Int32) ≤ (x0 + (x1 * x2)) then (some (99 : Int32)) else (some (x0 + (x1 * x2))))
def F_X0_greyStaying (w : GW) (x1 : Int32) (x2 : Int32) : Option Int32 := ((F_X0_hasClerk w x1).bind fun q1 => (if q1 = 0 then (some (0 : Int32)) else (if gin x1 6 then ((F_X0_hasCorner w (w.1 5 x1.toNatClampNeg)).bind fun q4 => (if q4 = 0 then (some (0 : Int32)) else (if gin (w.1 5 x1.toNatClampNeg) 7 then ((F_X10_greyGrown (w.1 7 x1.toNatClampNeg) (w.1 1 (w.1 5 x1.toNatClampNeg).toNatClampNeg) x2).bind fun q7 => (some q7)) else none))) else none)))
def f_X0_greySeated_45 (w : GW) (x2 : Int32) (x3 : Int32) (s0 : Int32) : Option Int32 := (if gin x2 7 then ((F_X10_greyGrown s0 (w.1 1 x2.toNatClampNeg) x3).bind fun q8 => (some q8)) else none)
def F_X0_greySeated (w : GW) (x1 : Int32) (x2 : Int32) (x3 : Int32) : Option Int32 := ((F_X0_hasClerk w x1).bind fun q1 => (if q1 = 0 then (some (0 : Int32)) else ((F_X0_hasCorner w x2).bind fun q3 => (if q3 = 0 then (some (0 : Int32)) else (if gin x1 6 then (if (w.1 5 x1.toNatClampNeg) = x2 then (f_X0_greySeated_45 w x2 x3 (w.1 7 x1.toNatClampNeg)) else (f_X0_greySeated_45 w x2 x3 ((w.1 7 x1.toNatClampNeg) / (2 : Int32)))) else none)))))
def f_X0_passYear_67 (k4 : Int32 → Int32 → GW → Option (Int32 × GW)) (x1 : Int32) (x2 : Int32) (w : GW) : Option (Int32 × GW) := (if gin x2 6 then ((F_X0_greyStaying (gI w 6 x2.toNatClampNeg (imin (999 : Int32) ((w.1 6 x2.toNatClampNeg) + (1 : Int32)))) x2 (1 : Int32)).bind fun q8 => (k4 x1 (x2 + (1 : Int32)) (gI (gI w 6 x2.toNatClampNeg (imin (999 : Int32) ((w.1 6 x2.toNatClampNeg) + (1 : Int32)))) 7 x2.toNatClampNeg q8))) else none)
def b_X0_passYear_4 (k4 : Int32 → Int32 → GW → Option (Int32 × GW)) (x1 : Int32) (x2 : Int32) (w : GW) : Option (Int32 × GW) := (if (w.1 0 5) ≤ x2 then (some (x1, (gI w 0 2 ((w.1 0 2) + (1 : Int32))))) else ((F_X0_looksOf w x2).bind fun q2 => ((F_X0_payBy w q2).bind fun q3 => (if (w.1 0 1) < q3 then (if gin x2 6 then (f_X0_passYear_67 k4 x1 x2 (gI w 10 x2.toNatClampNeg ((w.1 10 x2.toNatClampNeg) + (1 : Int32)))) else none) else (if gin x2 6 then (f_X0_passYear_67 k4 (x1 + q3) x2 (gI (gI w 0 1 ((w.1 0 1) - q3)) 9 x2.toNatClampNeg ((w.1 9 x2.toNatClampNeg) + q3))) else none)))))
def f_X0_passYear_4 : Nat → Int32 → Int32 → GW → Option (Int32 × GW)
  | 0, _, _, _ => none
  | n + 1, x1, x2, w => b_X0_passYear_4 (f_X0_passYear_4 n) x1 x2 w
def F_X0_passYear (w : GW) : Option (Int32 × GW) := (f_X0_passYear_4 FU (0 : Int32) (0 : Int32) w)
def b_X0_passYears_18 (k18 : Int32 → Int32 → Int32 → GW → Option (Int32 × GW)) (x1 : Int32) (x2 : Int32) (x3 : Int32) (w : GW) : Option (Int32 × GW) := (if x1 ≤ x3 then (some (x2, w)) else ((F_X0_passYear w).bind fun q3 => (k18 x1 (x2 + q3.1) (x3 + (1 : Int32)) q3.2)))
def f_X0_passYears_18 : Nat → Int32 → Int32 → Int32 → GW → Option (Int32 × GW)
  | 0, _, _, _, _ => none
  | n + 1, x1, x2, x3, w => b_X0_passYears_18 (f_X0_passYears_18 n) x1 x2 x3 w
def F_X0_passYears (x1 : Int32) (w : GW) : Option (Int32 × GW) := (if ((w.1 0 2) + x1) ≤ (9999 : Int32) then (f_X0_passYears_18 FU x1 (0 : Int32) (0 : Int32) w) else (some ((-1 : Int32), w)))
def F_X0_loseHalf (x1 : Int32) (w : GW) : Option GW := ((F_X0_hasClerk w x1).bind fun q1 => (if q1 = 0 then (some w) else (if gin x1 6 then (some (gI (gI w 7 x1.toNatClampNeg ((w.1 7 x1.toNatClampNeg) / (2 : Int32))) 8 x1.toNatClampNeg (0 : Int32))) else none)))
def F_X0_seatElsewhere (x1 : Int32) (x2 : Int32) (w : GW) : Option (Int32 × GW) := ((F_X0_hasClerk w x1).bind fun q1 => (if q1 = 0 then (some ((-1 : Int32), w)) else ((F_X0_hasCorner w x2).bind fun q3 => (if q3 = 0 then (some ((-1 : Int32), w)) else ((F_X0_sitterIn w x2).bind fun q5 => (if q5 = (-1 : Int32) then (if gin x1 6 then ((F_X0_loseHalf x1 (gI w 5 x1.toNatClampNeg x2)).bind fun q8 => (some ((q8.1 7 x1.toNatClampNeg), q8))) else none) else (some ((-1 : Int32), w))))))))
def F_X0_exchange (x1 : Int32) (x2 : Int32) (w : GW) : Option (Int32 × GW) := ((F_X0_hasClerk w x1).bind fun q1 => (if q1 = 0 then (some ((-1 : Int32), w)) else ((F_X0_hasClerk w x2).bind fun q3 => (if q3 = 0 then (some ((-1 : Int32), w)) else (if x1 = x2 then (some ((-1 : Int32), w)) else (if gin x1 6 then (if gin x2 6 then ((F_X0_loseHalf x1 (gI (gI w 5 x1.toNatClampNeg (w.1 5 x2.toNatClampNeg)) 5 x2.toNatClampNeg (w.1 5 x1.toNatClampNeg))).bind fun q8 => ((F_X0_loseHalf x2 q8).bind fun q9 => (some (((q9.1 7 x1.toNatClampNeg) + (q9.1 7 x2.toNatClampNeg)), q9)))) else none) else none))))))
def F_X0_addSham (x1 : Int32) (x2 : Int32) (w : GW) : Option (Int32 × GW) := ((F_X0_hasClerk w x1).bind fun q1 => (if q1 = 0 then (some ((-1 : Int32), w)) else (if gin x1 6 then (if (w.1 8 x1.toNatClampNeg) < (99 : Int32) then (some (((gI w 8 x1.toNatClampNeg (imin (99 : Int32) ((w.1 8 x1.toNatClampNeg) + x2))).1 8 x1.toNatClampNeg), (gI w 8 x1.toNatClampNeg (imin (99 : Int32) ((w.1 8 x1.toNatClampNeg) + x2))))) else (some ((-1 : Int32), w))) else none)))
def F_X0_wipe (x1 : Int32) (w : GW) : Option (Int32 × GW) := ((F_X0_hasClerk w x1).bind fun q1 => (if q1 = 0 then (some ((-1 : Int32), w)) else (if gin x1 6 then (if ((w.1 7 x1.toNatClampNeg) + (w.1 8 x1.toNatClampNeg)) = 0 then (some ((-1 : Int32), w)) else (some (((w.1 7 x1.toNatClampNeg) + (w.1 8 x1.toNatClampNeg)), (gI (gI w 7 x1.toNatClampNeg (0 : Int32)) 8 x1.toNatClampNeg (0 : Int32))))) else none)))
def F_X0_exposeSham (x1 : Int32) (w : GW) : Option (Int32 × GW) := ((F_X0_hasClerk w x1).bind fun q1 => (if q1 = 0 then (some ((-1 : Int32), w)) else (if gin x1 6 then (if (w.1 8 x1.toNatClampNeg) = 0 then (some ((-1 : Int32), w)) else (some ((w.1 8 x1.toNatClampNeg), (gI w 8 x1.toNatClampNeg (0 : Int32))))) else none)))
def f_X0_comingWithout_83 (k30 : Int32 → Int32 → Int32 → Int32 → Int32 → Int32 → Option Int32) (w : GW) (x1 : Int32) (x2 : Int32) (x3 : Int32) (x4 : Int32) (x5 : Int32) (x6 : Int32) : Option Int32 := (k30 x1 x2 x3 x4 x5 (x6 + (1 : Int32)))
def b_X0_comingWithout_30 (k10 : Int32 → Int32 → Int32 → Int32 → Int32 → Option Int32) (k30 : Int32 → Int32 → Int32 → Int32 → Int32 → Int32 → Option Int32) (w : GW) (x1 : Int32) (x2 : Int32) (x3 : Int32) (x4 : Int32) (x5 : Int32) (x6 : Int32) : Option Int32 := (if (w.1 0 6) ≤ x6 then (k10 x1 x2 x3 x4 (x5 + (1 : Int32))) else (if ((x2 ||| x1) &&& ((1 : Int32) <<< (x6 &&& 31))) = 0 then (if gin x6 8 then (if x3 < (w.1 12 x6.toNatClampNeg) then (f_X0_comingWithout_83 k30 w x1 x2 x3 x4 x5 x6) else (f_X0_comingWithout_83 k30 w x1 (x2 ||| ((1 : Int32) <<< (x6 &&& 31))) (x3 + (w.1 11 x6.toNatClampNeg)) (1 : Int32) x5 x6)) else none) else (f_X0_comingWithout_83 k30 w x1 x2 x3 x4 x5 x6)))
def f_X0_comingWithout_30 (k10 : Int32 → Int32 → Int32 → Int32 → Int32 → Option Int32) (w : GW) : Nat → Int32 → Int32 → Int32 → Int32 → Int32 → Int32 → Option Int32
  | 0, _, _, _, _, _, _ => none
  | n + 1, x1, x2, x3, x4, x5, x6 => b_X0_comingWithout_30 k10 (f_X0_comingWithout_30 k10 w n) w x1 x2 x3 x4 x5 x6
def b_X0_comingWithout_10 (k10 : Int32 → Int32 → Int32 → Int32 → Int32 → Option Int32) (w : GW) (x1 : Int32) (x2 : Int32) (x3 : Int32) (x4 : Int32) (x5 : Int32) : Option Int32 := (if (w.1 0 6) ≤ x5 then (some x2) else (if x4 = 0 then (some x2) else (f_X0_comingWithout_30 k10 w FU x1 x2 x3 (0 : Int32) x5 (0 : Int32))))
def f_X0_comingWithout_10 (w : GW) : Nat → Int32 → Int32 → Int32 → Int32 → Int32 → Option Int32
  | 0, _, _, _, _, _ => none
  | n + 1, x1, x2, x3, x4, x5 => b_X0_comingWithout_10 (f_X0_comingWithout_10 w n) w x1 x2 x3 x4 x5
def F_X0_comingWithout (w : GW) (x1 : Int32) : Option Int32 := (f_X0_comingWithout_10 w FU x1 (0 : Int32) (0 : Int32) (1 : Int32) (0 : Int32))
def f_X0_sumOf_29 (k4 : Int32 → Int32 → Int32 → Option Int32) (w : GW) (x1 : Int32) (x2 : Int32) (x3 : Int32) : Option Int32 := (k4 x1 x2 (x3 + (1 : Int32)))
def b_X0_sumOf_4 (k4 : Int32 → Int32 → Int32 → Option Int32) (w : GW) (x1 : Int32) (x2 : Int32) (x3 : Int32) : Option Int32 := (if (w.1 0 6) ≤ x3 then (some x2) else (if (x1 &&& ((1 : Int32) <<< (x3 &&& 31))) = 0 then (f_X0_sumOf_29 k4 w x1 x2 x3) else (if gin x3 8 then (f_X0_sumOf_29 k4 w x1 (x2 + (w.1 11 x3.toNatClampNeg)) x3) else none)))
def f_X0_sumOf_4 (w : GW) : Nat → Int32 → Int32 → Int32 → Option Int32
  | 0, _, _, _ => none
  | n + 1, x1, x2, x3 => b_X0_sumOf_4 (f_X0_sumOf_4 w n) w x1 x2 x3
def F_X0_sumOf (w : GW) (x1 : Int32) : Option Int32 := (f_X0_sumOf_4 w FU x1 (0 : Int32) (0 : Int32))
def f_X0_payComing_109 (k19 : Int32 → Int32 → Int32 → Int32 → GW → Option (Int32 × GW)) (x1 : Int32) (x2 : Int32) (x3 : Int32) (x4 : Int32) (w : GW) : Option (Int32 × GW) := (k19 x1 x2 x3 (x4 + (1 : Int32)) w)
def f_X0_payComing_80 (k19 : Int32 → Int32 → Int32 → Int32 → GW → Option (Int32 × GW)) (x1 : Int32) (x2 : Int32) (x3 : Int32) (x4 : Int32) (w : GW) : Option (Int32 × GW) := (if gin x4 8 then (if gin x3 8 then (f_X0_payComing_109 k19 x1 x2 (x3 + (1 : Int32)) x4 (gI (gI w 11 x3.toNatClampNeg (w.1 11 x4.toNatClampNeg)) 12 x3.toNatClampNeg (w.1 12 x4.toNatClampNeg))) else none) else none)
def b_X0_payComing_19 (k19 : Int32 → Int32 → Int32 → Int32 → GW → Option (Int32 × GW)) (x1 : Int32) (x2 : Int32) (x3 : Int32) (x4 : Int32) (w : GW) : Option (Int32 × GW) := (if (w.1 0 6) ≤ x4 then (some (x2, (gI w 0 6 x3))) else (if (x1 &&& ((1 : Int32) <<< (x4 &&& 31))) = 0 then (f_X0_payComing_80 k19 x1 x2 x3 x4 w) else (if gin x4 8 then (if (w.1 0 1) < (w.1 11 x4.toNatClampNeg) then (f_X0_payComing_80 k19 x1 x2 x3 x4 w) else (f_X0_payComing_109 k19 x1 (x2 + (w.1 11 x4.toNatClampNeg)) x3 x4 (gI w 0 1 ((w.1 0 1) - (w.1 11 x4.toNatClampNeg))))) else none)))
def f_X0_payComing_19 : Nat → Int32 → Int32 → Int32 → Int32 → GW → Option (Int32 × GW)
  | 0, _, _, _, _, _ => none
  | n + 1, x1, x2, x3, x4, w => b_X0_payComing_19 (f_X0_payComing_19 n) x1 x2 x3 x4 w
def F_X0_payComing (w : GW) : Option (Int32 × GW) := ((F_X0_comingWithout w (0 : Int32)).bind fun q1 => (if q1 = 0 then (some ((-1 : Int32), w)) else (f_X0_payComing_19 FU q1 (0 : Int32) (0 : Int32) (0 : Int32) w)))
def F_J6_bitCount_0f7a4 (x0 : Int32) : Option Int32 := (some ((((((((x0 - (((x0.toUInt32 >>> ((1 : Int32).toUInt32 &&& Int32.toUInt32 31)).toInt32) &&& (1431655765 : Int32))) &&& (858993459 : Int32)) + ((((x0 - (((x0.toUInt32 >>> ((1 : Int32).toUInt32 &&& Int32.toUInt32 31)).toInt32) &&& (1431655765 : Int32))).toUInt32 >>> ((2 : Int32).toUInt32 &&& Int32.toUInt32 31)).toInt32) &&& (858993459 : Int32))) + (((((x0 - (((x0.toUInt32 >>> ((1 : Int32).toUInt32 &&& Int32.toUInt32 31)).toInt32) &&& (1431655765 : Int32))) &&& (858993459 : Int32)) + ((((x0 - (((x0.toUInt32 >>> ((1 : Int32).toUInt32 &&& Int32.toUInt32 31)).toInt32) &&& (1431655765 : Int32))).toUInt32 >>> ((2 : Int32).toUInt32 &&& Int32.toUInt32 31)).toInt32) &&& (858993459 : Int32))).toUInt32 >>> ((4 : Int32).toUInt32 &&& Int32.toUInt32 31)).toInt32)) &&& (252645135 : Int32)) + (((((((x0 - (((x0.toUInt32 >>> ((1 : Int32).toUInt32 &&& Int32.toUInt32 31)).toInt32) &&& (1431655765 : Int32))) &&& (858993459 : Int32)) + ((((x0 - (((x0.toUInt32 >>> ((1 : Int32).toUInt32 &&& Int32.toUInt32 31)).toInt32) &&& (1431655765 : Int32))).toUInt32 >>> ((2 : Int32).toUInt32 &&& Int32.toUInt32 31)).toInt32) &&& (858993459 : Int32))) + (((((x0 - (((x0.toUInt32 >>> ((1 : Int32).toUInt32 &&& Int32.toUInt32 31)).toInt32) &&& (1431655765 : Int32))) &&& (858993459 : Int32)) + ((((x0 - (((x0.toUInt32 >>> ((1 : Int32).toUInt32 &&& Int32.toUInt32 31)).toInt32) &&& (1431655765 : Int32))).toUInt32 >>> ((2 : Int32).toUInt32 &&& Int32.toUInt32 31)).toInt32) &&& (858993459 : Int32))).toUInt32 >>> ((4 : Int32).toUInt32 &&& Int32.toUInt32 31)).toInt32)) &&& (252645135 : Int32)).toUInt32 >>> ((8 : Int32).toUInt32 &&& Int32.toUInt32 31)).toInt32)) + ((((((((x0 - (((x0.toUInt32 >>> ((1 : Int32).toUInt32 &&& Int32.toUInt32 31)).toInt32) &&& (1431655765 : Int32))) &&& (858993459 : Int32)) + ((((x0 - (((x0.toUInt32 >>> ((1 : Int32).toUInt32 &&& Int32.toUInt32 31)).toInt32) &&& (1431655765 : Int32))).toUInt32 >>> ((2 : Int32).toUInt32 &&& Int32.toUInt32 31)).toInt32) &&& (858993459 : Int32))) + (((((x0 - (((x0.toUInt32 >>> ((1 : Int32).toUInt32 &&& Int32.toUInt32 31)).toInt32) &&& (1431655765 : Int32))) &&& (858993459 : Int32)) + ((((x0 - (((x0.toUInt32 >>> ((1 : Int32).toUInt32 &&& Int32.toUInt32 31)).toInt32) &&& (1431655765 : Int32))).toUInt32 >>> ((2 : Int32).toUInt32 &&& Int32.toUInt32 31)).toInt32) &&& (858993459 : Int32))).toUInt32 >>> ((4 : Int32).toUInt32 &&& Int32.toUInt32 31)).toInt32)) &&& (252645135 : Int32)) + (((((((x0 - (((x0.toUInt32 >>> ((1 : Int32).toUInt32 &&& Int32.toUInt32 31)).toInt32) &&& (1431655765 : Int32))) &&& (858993459 : Int32)) + ((((x0 - (((x0.toUInt32 >>> ((1 : Int32).toUInt32 &&& Int32.toUInt32 31)).toInt32) &&& (1431655765 : Int32))).toUInt32 >>> ((2 : Int32).toUInt32 &&& Int32.toUInt32 31)).toInt32) &&& (858993459 : Int32))) + (((((x0 - (((x0.toUInt32 >>> ((1 : Int32).toUInt32 &&& Int32.toUInt32 31)).toInt32) &&& (1431655765 : Int32))) &&& (858993459 : Int32)) + ((((x0 - (((x0.toUInt32 >>> ((1 : Int32).toUInt32 &&& Int32.toUInt32 31)).toInt32) &&& (1431655765 : Int32))).toUInt32 >>> ((2 : Int32).toUInt32 &&& Int32.toUInt32 31)).toInt32) &&& (858993459 : Int32))).toUInt32 >>> ((4 : Int32).toUInt32 &&& Int32.toUInt32 31)).toInt32)) &&& (252645135 : Int32)).toUInt32 >>> ((8 : Int32).toUInt32 &&& Int32.toUInt32 31)).toInt32)).toUInt32 >>> ((16 : Int32).toUInt32 &&& Int32.toUInt32 31)).toInt32)) &&& (63 : Int32)))
set_option maxHeartbeats 4000000 in
set_option maxRecDepth 100000 in
theorem c_X0_clear (l : Launch) (D : va_G) (cA ad : Nat → Nat) (hin : gInj ad shB.length) (w : GW) (q : GW) (hf : F_X0_clear w = some q) : gMet l yX0_clear cX0_clear 1 none 1 120 D cA ad shB [.ref 0] w none q := by
  refine g_entry (by decide) hin (Nat.le_of_ble_eq_true rfl) ?_
  intro p e s m args below meth c C
  unfold F_X0_clear at hf
  show gW p l e (gRm 1 120) s m args below meth c D cA ad shB 1 0 0 (gQ below D cA ad shB none q args s) 0 [(0, .ref 0)] [] w
  refine g_aload_n C (gdec dt_X0_clear 0 rfl) (i := 0) rfl rfl ?_
  refine g_iconst C (gdec dt_X0_clear 1 rfl) ic_4 ?_
  refine g_puti C kf_X0_52 rfl rfl (gdec dt_X0_clear 2 rfl) ?_
  refine g_aload_n C (gdec dt_X0_clear 3 rfl) (i := 0) rfl rfl ?_
  refine g_bipush C (gdec dt_X0_clear 4 rfl) bc_100 ?_
  refine g_puti C kf_X0_56 rfl rfl (gdec dt_X0_clear 5 rfl) ?_
  refine g_aload_n C (gdec dt_X0_clear 6 rfl) (i := 0) rfl rfl ?_
  refine g_iconst C (gdec dt_X0_clear 7 rfl) ic_0 ?_
  refine g_puti C kf_X0_59 rfl rfl (gdec dt_X0_clear 8 rfl) ?_
  refine g_aload_n C (gdec dt_X0_clear 9 rfl) (i := 0) rfl rfl ?_
  refine g_iconst C (gdec dt_X0_clear 10 rfl) ic_0 ?_
  refine g_puti C kf_X0_62 rfl rfl (gdec dt_X0_clear 11 rfl) ?_
  refine g_aload_n C (gdec dt_X0_clear 12 rfl) (i := 0) rfl rfl ?_
  refine g_iconst C (gdec dt_X0_clear 13 rfl) ic_0 ?_
  refine g_puti C kf_X0_65 rfl rfl (gdec dt_X0_clear 14 rfl) ?_
  refine g_aload_n C (gdec dt_X0_clear 15 rfl) (i := 0) rfl rfl ?_
  refine g_iconst C (gdec dt_X0_clear 16 rfl) ic_0 ?_
  refine g_puti C kf_X0_68 rfl rfl (gdec dt_X0_clear 17 rfl) ?_
  refine g_aload_n C (gdec dt_X0_clear 18 rfl) (i := 0) rfl rfl ?_
  refine g_iconst C (gdec dt_X0_clear 19 rfl) ic_0 ?_
  refine g_puti C kf_X0_71 rfl rfl (gdec dt_X0_clear 20 rfl) ?_
  cases hf
  exact g_vret C rfl (gdec dt_X0_clear 21 rfl)
set_option maxHeartbeats 4000000 in
set_option maxRecDepth 100000 in
theorem c_X0_copyFrom (l : Launch) (D : va_G) (cA ad : Nat → Nat) (hin : gInj ad shBB.length) (w : GW) (q : GW) (hf : F_X0_copyFrom w = some q) : gMet l yX0_copyFrom cX0_copyFrom 2 none 1 120 D cA ad shBB [.ref 0, .ref 13] w none q := by
  refine g_entry (by decide) hin (Nat.le_of_ble_eq_true rfl) ?_
  intro p e s m args below meth c C
  unfold F_X0_copyFrom at hf
  show gW p l e (gRm 1 120) s m args below meth c D cA ad shBB 2 0 0 (gQ below D cA ad shBB none q args s) 0 [(0, .ref 0), (1, .ref 13)] [] w
  refine g_aload_n C (gdec dt_X0_copyFrom 0 rfl) (i := 0) rfl rfl ?_
  refine g_aload_n C (gdec dt_X0_copyFrom 1 rfl) (i := 1) rfl rfl ?_
  refine g_geti C kf_X0_52 rfl rfl (gdec dt_X0_copyFrom 2 rfl) ?_
  refine g_puti C kf_X0_52 rfl rfl (gdec dt_X0_copyFrom 3 rfl) ?_
  refine g_aload_n C (gdec dt_X0_copyFrom 4 rfl) (i := 0) rfl rfl ?_
  refine g_aload_n C (gdec dt_X0_copyFrom 5 rfl) (i := 1) rfl rfl ?_
  refine g_getiv C kf_X0_56 rfl rfl (gdec dt_X0_copyFrom 6 rfl) (v := (w.1 13 1)) rfl ?_
  refine g_puti C kf_X0_56 rfl rfl (gdec dt_X0_copyFrom 7 rfl) ?_
  refine g_aload_n C (gdec dt_X0_copyFrom 8 rfl) (i := 0) rfl rfl ?_
  refine g_aload_n C (gdec dt_X0_copyFrom 9 rfl) (i := 1) rfl rfl ?_
  refine g_getiv C kf_X0_59 rfl rfl (gdec dt_X0_copyFrom 10 rfl) (v := (w.1 13 2)) rfl ?_
  refine g_puti C kf_X0_59 rfl rfl (gdec dt_X0_copyFrom 11 rfl) ?_
  refine g_aload_n C (gdec dt_X0_copyFrom 12 rfl) (i := 0) rfl rfl ?_
  refine g_aload_n C (gdec dt_X0_copyFrom 13 rfl) (i := 1) rfl rfl ?_
  refine g_getiv C kf_X0_62 rfl rfl (gdec dt_X0_copyFrom 14 rfl) (v := (w.1 13 3)) rfl ?_
  refine g_puti C kf_X0_62 rfl rfl (gdec dt_X0_copyFrom 15 rfl) ?_
  refine g_aload_n C (gdec dt_X0_copyFrom 16 rfl) (i := 0) rfl rfl ?_
  refine g_aload_n C (gdec dt_X0_copyFrom 17 rfl) (i := 1) rfl rfl ?_
  refine g_getiv C kf_X0_65 rfl rfl (gdec dt_X0_copyFrom 18 rfl) (v := (w.1 13 4)) rfl ?_
  refine g_puti C kf_X0_65 rfl rfl (gdec dt_X0_copyFrom 19 rfl) ?_
  refine g_aload_n C (gdec dt_X0_copyFrom 20 rfl) (i := 0) rfl rfl ?_
  refine g_aload_n C (gdec dt_X0_copyFrom 21 rfl) (i := 1) rfl rfl ?_
  refine g_getiv C kf_X0_68 rfl rfl (gdec dt_X0_copyFrom 22 rfl) (v := (w.1 13 5)) rfl ?_
  refine g_puti C kf_X0_68 rfl rfl (gdec dt_X0_copyFrom 23 rfl) ?_
  refine g_aload_n C (gdec dt_X0_copyFrom 24 rfl) (i := 0) rfl rfl ?_
  refine g_aload_n C (gdec dt_X0_copyFrom 25 rfl) (i := 1) rfl rfl ?_
  refine g_getiv C kf_X0_71 rfl rfl (gdec dt_X0_copyFrom 26 rfl) (v := (w.1 13 6)) rfl ?_
  refine g_puti C kf_X0_71 rfl rfl (gdec dt_X0_copyFrom 27 rfl) ?_
  refine g_aload_n C (gdec dt_X0_copyFrom 28 rfl) (i := 1) rfl rfl ?_
  refine g_getr C (j := 14) kf_X0_9 rfl rfl (gdec dt_X0_copyFrom 29 rfl) ?_
  refine g_iconst C (gdec dt_X0_copyFrom 30 rfl) ic_0 ?_
  refine g_aload_n C (gdec dt_X0_copyFrom 31 rfl) (i := 0) rfl rfl ?_
  refine g_getr C (j := 1) kf_X0_9 rfl rfl (gdec dt_X0_copyFrom 32 rfl) ?_
  refine g_iconst C (gdec dt_X0_copyFrom 33 rfl) ic_0 ?_
  refine g_bipush C (gdec dt_X0_copyFrom 34 rfl) bc_7 ?_
  refine g_cpI C (gdec dt_X0_copyFrom 35 rfl) kl_X0_74 kac_native kac_static ki_System (i0 := 14) (i1 := 1) (kz := 0) (kd := 0) (kn := 7) (by exact rfl) (by exact rfl) (by decide) (by decide) (by decide) (by decide) (by decide) (by decide) (by decide) (by decide) (Nat.le_of_ble_eq_true rfl) ⟨by decide, by decide⟩ ?_
  refine g_aload_n C (gdec dt_X0_copyFrom 36 rfl) (i := 1) rfl rfl ?_
  refine g_getr C (j := 15) kf_X0_15 rfl rfl (gdec dt_X0_copyFrom 37 rfl) ?_
  refine g_iconst C (gdec dt_X0_copyFrom 38 rfl) ic_0 ?_
  refine g_aload_n C (gdec dt_X0_copyFrom 39 rfl) (i := 0) rfl rfl ?_
  refine g_getr C (j := 2) kf_X0_15 rfl rfl (gdec dt_X0_copyFrom 40 rfl) ?_
  refine g_iconst C (gdec dt_X0_copyFrom 41 rfl) ic_0 ?_
  refine g_iconst C (gdec dt_X0_copyFrom 42 rfl) ic_5 ?_
  refine g_cpI C (gdec dt_X0_copyFrom 43 rfl) kl_X0_74 kac_native kac_static ki_System (i0 := 15) (i1 := 2) (kz := 0) (kd := 0) (kn := 5) (by exact rfl) (by exact rfl) (by decide) (by decide) (by decide) (by decide) (by decide) (by decide) (by decide) (by decide) (Nat.le_of_ble_eq_true rfl) ⟨by decide, by decide⟩ ?_
  refine g_aload_n C (gdec dt_X0_copyFrom 44 rfl) (i := 1) rfl rfl ?_
  refine g_getr C (j := 16) kf_X0_18 rfl rfl (gdec dt_X0_copyFrom 45 rfl) ?_
  refine g_iconst C (gdec dt_X0_copyFrom 46 rfl) ic_0 ?_
  refine g_aload_n C (gdec dt_X0_copyFrom 47 rfl) (i := 0) rfl rfl ?_
  refine g_getr C (j := 3) kf_X0_18 rfl rfl (gdec dt_X0_copyFrom 48 rfl) ?_
  refine g_iconst C (gdec dt_X0_copyFrom 49 rfl) ic_0 ?_
  refine g_iconst C (gdec dt_X0_copyFrom 50 rfl) ic_5 ?_
  refine g_cpI C (gdec dt_X0_copyFrom 51 rfl) kl_X0_74 kac_native kac_static ki_System (i0 := 16) (i1 := 3) (kz := 0) (kd := 0) (kn := 5) (by exact rfl) (by exact rfl) (by decide) (by decide) (by decide) (by decide) (by decide) (by decide) (by decide) (by decide) (Nat.le_of_ble_eq_true rfl) ⟨by decide, by decide⟩ ?_
  refine g_aload_n C (gdec dt_X0_copyFrom 52 rfl) (i := 1) rfl rfl ?_
  refine g_getr C (j := 17) kf_X0_21 rfl rfl (gdec dt_X0_copyFrom 53 rfl) ?_
  refine g_iconst C (gdec dt_X0_copyFrom 54 rfl) ic_0 ?_
  refine g_aload_n C (gdec dt_X0_copyFrom 55 rfl) (i := 0) rfl rfl ?_
  refine g_getr C (j := 4) kf_X0_21 rfl rfl (gdec dt_X0_copyFrom 56 rfl) ?_
  refine g_iconst C (gdec dt_X0_copyFrom 57 rfl) ic_0 ?_
  refine g_bipush C (gdec dt_X0_copyFrom 58 rfl) bc_6 ?_
  refine g_cpL C (gdec dt_X0_copyFrom 59 rfl) kl_X0_74 kac_native kac_static ki_System (i0 := 17) (i1 := 4) (kz := 0) (kd := 0) (kn := 6) (by exact rfl) (by exact rfl) (by decide) (by decide) (by decide) (by decide) (by decide) (by decide) (by decide) (by decide) (Nat.le_of_ble_eq_true rfl) ⟨by decide, by decide⟩ ?_
  refine g_aload_n C (gdec dt_X0_copyFrom 60 rfl) (i := 1) rfl rfl ?_
  refine g_getr C (j := 18) kf_X0_25 rfl rfl (gdec dt_X0_copyFrom 61 rfl) ?_
  refine g_iconst C (gdec dt_X0_copyFrom 62 rfl) ic_0 ?_
  refine g_aload_n C (gdec dt_X0_copyFrom 63 rfl) (i := 0) rfl rfl ?_
  refine g_getr C (j := 5) kf_X0_25 rfl rfl (gdec dt_X0_copyFrom 64 rfl) ?_
  refine g_iconst C (gdec dt_X0_copyFrom 65 rfl) ic_0 ?_
  refine g_bipush C (gdec dt_X0_copyFrom 66 rfl) bc_6 ?_
  refine g_cpI C (gdec dt_X0_copyFrom 67 rfl) kl_X0_74 kac_native kac_static ki_System (i0 := 18) (i1 := 5) (kz := 0) (kd := 0) (kn := 6) (by exact rfl) (by exact rfl) (by decide) (by decide) (by decide) (by decide) (by decide) (by decide) (by decide) (by decide) (Nat.le_of_ble_eq_true rfl) ⟨by decide, by decide⟩ ?_
  refine g_aload_n C (gdec dt_X0_copyFrom 68 rfl) (i := 1) rfl rfl ?_
  refine g_getr C (j := 19) kf_X0_28 rfl rfl (gdec dt_X0_copyFrom 69 rfl) ?_
  refine g_iconst C (gdec dt_X0_copyFrom 70 rfl) ic_0 ?_
  refine g_aload_n C (gdec dt_X0_copyFrom 71 rfl) (i := 0) rfl rfl ?_
  refine g_getr C (j := 6) kf_X0_28 rfl rfl (gdec dt_X0_copyFrom 72 rfl) ?_
  refine g_iconst C (gdec dt_X0_copyFrom 73 rfl) ic_0 ?_
  refine g_bipush C (gdec dt_X0_copyFrom 74 rfl) bc_6 ?_
  refine g_cpI C (gdec dt_X0_copyFrom 75 rfl) kl_X0_74 kac_native kac_static ki_System (i0 := 19) (i1 := 6) (kz := 0) (kd := 0) (kn := 6) (by exact rfl) (by exact rfl) (by decide) (by decide) (by decide) (by decide) (by decide) (by decide) (by decide) (by decide) (Nat.le_of_ble_eq_true rfl) ⟨by decide, by decide⟩ ?_
  refine g_aload_n C (gdec dt_X0_copyFrom 76 rfl) (i := 1) rfl rfl ?_
  refine g_getr C (j := 20) kf_X0_31 rfl rfl (gdec dt_X0_copyFrom 77 rfl) ?_
  refine g_iconst C (gdec dt_X0_copyFrom 78 rfl) ic_0 ?_
  refine g_aload_n C (gdec dt_X0_copyFrom 79 rfl) (i := 0) rfl rfl ?_
  refine g_getr C (j := 7) kf_X0_31 rfl rfl (gdec dt_X0_copyFrom 80 rfl) ?_
  refine g_iconst C (gdec dt_X0_copyFrom 81 rfl) ic_0 ?_
  refine g_bipush C (gdec dt_X0_copyFrom 82 rfl) bc_6 ?_
  refine g_cpI C (gdec dt_X0_copyFrom 83 rfl) kl_X0_74 kac_native kac_static ki_System (i0 := 20) (i1 := 7) (kz := 0) (kd := 0) (kn := 6) (by exact rfl) (by exact rfl) (by decide) (by decide) (by decide) (by decide) (by decide) (by decide) (by decide) (by decide) (Nat.le_of_ble_eq_true rfl) ⟨by decide, by decide⟩ ?_
  refine g_aload_n C (gdec dt_X0_copyFrom 84 rfl) (i := 1) rfl rfl ?_
  refine g_getr C (j := 21) kf_X0_34 rfl rfl (gdec dt_X0_copyFrom 85 rfl) ?_
  refine g_iconst C (gdec dt_X0_copyFrom 86 rfl) ic_0 ?_
  refine g_aload_n C (gdec dt_X0_copyFrom 87 rfl) (i := 0) rfl rfl ?_
  refine g_getr C (j := 8) kf_X0_34 rfl rfl (gdec dt_X0_copyFrom 88 rfl) ?_
  refine g_iconst C (gdec dt_X0_copyFrom 89 rfl) ic_0 ?_
  refine g_bipush C (gdec dt_X0_copyFrom 90 rfl) bc_6 ?_
  refine g_cpI C (gdec dt_X0_copyFrom 91 rfl) kl_X0_74 kac_native kac_static ki_System (i0 := 21) (i1 := 8) (kz := 0) (kd := 0) (kn := 6) (by exact rfl) (by exact rfl) (by decide) (by decide) (by decide) (by decide) (by decide) (by decide) (by decide) (by decide) (Nat.le_of_ble_eq_true rfl) ⟨by decide, by decide⟩ ?_
  refine g_aload_n C (gdec dt_X0_copyFrom 92 rfl) (i := 1) rfl rfl ?_
  refine g_getr C (j := 22) kf_X0_37 rfl rfl (gdec dt_X0_copyFrom 93 rfl) ?_
  refine g_iconst C (gdec dt_X0_copyFrom 94 rfl) ic_0 ?_
  refine g_aload_n C (gdec dt_X0_copyFrom 95 rfl) (i := 0) rfl rfl ?_
  refine g_getr C (j := 9) kf_X0_37 rfl rfl (gdec dt_X0_copyFrom 96 rfl) ?_
  refine g_iconst C (gdec dt_X0_copyFrom 97 rfl) ic_0 ?_
  refine g_bipush C (gdec dt_X0_copyFrom 98 rfl) bc_6 ?_
  refine g_cpI C (gdec dt_X0_copyFrom 99 rfl) kl_X0_74 kac_native kac_static ki_System (i0 := 22) (i1 := 9) (kz := 0) (kd := 0) (kn := 6) (by exact rfl) (by exact rfl) (by decide) (by decide) (by decide) (by decide) (by decide) (by decide) (by decide) (by decide) (Nat.le_of_ble_eq_true rfl) ⟨by decide, by decide⟩ ?_
  refine g_aload_n C (gdec dt_X0_copyFrom 100 rfl) (i := 1) rfl rfl ?_
  refine g_getr C (j := 23) kf_X0_40 rfl rfl (gdec dt_X0_copyFrom 101 rfl) ?_
  refine g_iconst C (gdec dt_X0_copyFrom 102 rfl) ic_0 ?_
  refine g_aload_n C (gdec dt_X0_copyFrom 103 rfl) (i := 0) rfl rfl ?_
  refine g_getr C (j := 10) kf_X0_40 rfl rfl (gdec dt_X0_copyFrom 104 rfl) ?_
  refine g_iconst C (gdec dt_X0_copyFrom 105 rfl) ic_0 ?_
  refine g_bipush C (gdec dt_X0_copyFrom 106 rfl) bc_6 ?_
  refine g_cpI C (gdec dt_X0_copyFrom 107 rfl) kl_X0_74 kac_native kac_static ki_System (i0 := 23) (i1 := 10) (kz := 0) (kd := 0) (kn := 6) (by exact rfl) (by exact rfl) (by decide) (by decide) (by decide) (by decide) (by decide) (by decide) (by decide) (by decide) (Nat.le_of_ble_eq_true rfl) ⟨by decide, by decide⟩ ?_
  refine g_aload_n C (gdec dt_X0_copyFrom 108 rfl) (i := 1) rfl rfl ?_
  refine g_getr C (j := 24) kf_X0_43 rfl rfl (gdec dt_X0_copyFrom 109 rfl) ?_
  refine g_iconst C (gdec dt_X0_copyFrom 110 rfl) ic_0 ?_
  refine g_aload_n C (gdec dt_X0_copyFrom 111 rfl) (i := 0) rfl rfl ?_
  refine g_getr C (j := 11) kf_X0_43 rfl rfl (gdec dt_X0_copyFrom 112 rfl) ?_
  refine g_iconst C (gdec dt_X0_copyFrom 113 rfl) ic_0 ?_
  refine g_bipush C (gdec dt_X0_copyFrom 114 rfl) bc_8 ?_
  refine g_cpI C (gdec dt_X0_copyFrom 115 rfl) kl_X0_74 kac_native kac_static ki_System (i0 := 24) (i1 := 11) (kz := 0) (kd := 0) (kn := 8) (by exact rfl) (by exact rfl) (by decide) (by decide) (by decide) (by decide) (by decide) (by decide) (by decide) (by decide) (Nat.le_of_ble_eq_true rfl) ⟨by decide, by decide⟩ ?_
  refine g_aload_n C (gdec dt_X0_copyFrom 116 rfl) (i := 1) rfl rfl ?_
  refine g_getr C (j := 25) kf_X0_46 rfl rfl (gdec dt_X0_copyFrom 117 rfl) ?_
  refine g_iconst C (gdec dt_X0_copyFrom 118 rfl) ic_0 ?_
  refine g_aload_n C (gdec dt_X0_copyFrom 119 rfl) (i := 0) rfl rfl ?_
  refine g_getr C (j := 12) kf_X0_46 rfl rfl (gdec dt_X0_copyFrom 120 rfl) ?_
  refine g_iconst C (gdec dt_X0_copyFrom 121 rfl) ic_0 ?_
  refine g_bipush C (gdec dt_X0_copyFrom 122 rfl) bc_8 ?_
  refine g_cpI C (gdec dt_X0_copyFrom 123 rfl) kl_X0_74 kac_native kac_static ki_System (i0 := 25) (i1 := 12) (kz := 0) (kd := 0) (kn := 8) (by exact rfl) (by exact rfl) (by decide) (by decide) (by decide) (by decide) (by decide) (by decide) (by decide) (by decide) (Nat.le_of_ble_eq_true rfl) ⟨by decide, by decide⟩ ?_
  cases hf
  exact g_vret C rfl (gdec dt_X0_copyFrom 124 rfl)
set_option maxHeartbeats 4000000 in
set_option maxRecDepth 100000 in
theorem c_X0_hasCorner (l : Launch) (D : va_G) (cA ad : Nat → Nat) (hin : gInj ad shB.length) (w : GW) (x1 : Int32) (q : Int32) (hf : F_X0_hasCorner w x1 = some q) : gMet l yX0_hasCorner cX0_hasCorner 2 (some .boolean) 1 120 D cA ad shB [.ref 0, .int x1] w (some (.int q)) w := by
  refine g_entry (by decide) hin (Nat.le_of_ble_eq_true rfl) ?_
  intro p e s m args below meth c C
  unfold F_X0_hasCorner at hf
  show gW p l e (gRm 1 120) s m args below meth c D cA ad shB 2 0 0 (gQ below D cA ad shB (some (.int q)) w args s) 0 [(0, .ref 0), (1, .int x1)] [] w
  refine g_iload_n C (gdec dt_X0_hasCorner 0 rfl) (i := 1) rfl rfl ?_
  refine g_if_lt C (tgt := 16) (gdec dt_X0_hasCorner 1 rfl) (by decide) (fun hc1 => ?_) (fun hc1 => ?_)
  · have hf := (if_pos hc1).symm.trans hf
    refine g_iconst C (gdec dt_X0_hasCorner 8 rfl) ic_0 ?_
    cases hf
    exact g_zret C (Or.inl rfl) rfl (gdec dt_X0_hasCorner 9 rfl)
  · have hf := (if_neg hc1).symm.trans hf
    refine g_iload_n C (gdec dt_X0_hasCorner 2 rfl) (i := 1) rfl rfl ?_
    refine g_aload_n C (gdec dt_X0_hasCorner 3 rfl) (i := 0) rfl rfl ?_
    refine g_geti C kf_X0_62 rfl rfl (gdec dt_X0_hasCorner 4 rfl) ?_
    refine g_icmp_ge C (tgt := 16) (gdec dt_X0_hasCorner 5 rfl) (by decide) (fun hc2 => ?_) (fun hc2 => ?_)
    · have hf := (if_pos hc2).symm.trans hf
      refine g_iconst C (gdec dt_X0_hasCorner 8 rfl) ic_0 ?_
      cases hf
      exact g_zret C (Or.inl rfl) rfl (gdec dt_X0_hasCorner 9 rfl)
    · have hf := (if_neg hc2).symm.trans hf
      refine g_iconst C (gdec dt_X0_hasCorner 6 rfl) ic_1 ?_
      refine g_goto C (tgt := 17) (gdec dt_X0_hasCorner 7 rfl) (by decide) ?_
      cases hf
      exact g_zret C (Or.inr rfl) rfl (gdec dt_X0_hasCorner 9 rfl)
set_option maxHeartbeats 4000000 in
set_option maxRecDepth 100000 in
theorem c_X0_hasRank (l : Launch) (D : va_G) (cA ad : Nat → Nat) (hin : gInj ad shB.length) (w : GW) (x1 : Int32) (q : Int32) (hf : F_X0_hasRank w x1 = some q) : gMet l yX0_hasRank cX0_hasRank 2 (some .boolean) 1 120 D cA ad shB [.ref 0, .int x1] w (some (.int q)) w := by
  refine g_entry (by decide) hin (Nat.le_of_ble_eq_true rfl) ?_
  intro p e s m args below meth c C
  unfold F_X0_hasRank at hf
  show gW p l e (gRm 1 120) s m args below meth c D cA ad shB 2 0 0 (gQ below D cA ad shB (some (.int q)) w args s) 0 [(0, .ref 0), (1, .int x1)] [] w
  refine g_iload_n C (gdec dt_X0_hasRank 0 rfl) (i := 1) rfl rfl ?_
  refine g_if_lt C (tgt := 16) (gdec dt_X0_hasRank 1 rfl) (by decide) (fun hc1 => ?_) (fun hc1 => ?_)
  · have hf := (if_pos hc1).symm.trans hf
    refine g_iconst C (gdec dt_X0_hasRank 8 rfl) ic_0 ?_
    cases hf
    exact g_zret C (Or.inl rfl) rfl (gdec dt_X0_hasRank 9 rfl)
  · have hf := (if_neg hc1).symm.trans hf
    refine g_iload_n C (gdec dt_X0_hasRank 2 rfl) (i := 1) rfl rfl ?_
    refine g_aload_n C (gdec dt_X0_hasRank 3 rfl) (i := 0) rfl rfl ?_
    refine g_geti C kf_X0_65 rfl rfl (gdec dt_X0_hasRank 4 rfl) ?_
    refine g_icmp_ge C (tgt := 16) (gdec dt_X0_hasRank 5 rfl) (by decide) (fun hc2 => ?_) (fun hc2 => ?_)
    · have hf := (if_pos hc2).symm.trans hf
      refine g_iconst C (gdec dt_X0_hasRank 8 rfl) ic_0 ?_
      cases hf
      exact g_zret C (Or.inl rfl) rfl (gdec dt_X0_hasRank 9 rfl)
    · have hf := (if_neg hc2).symm.trans hf
      refine g_iconst C (gdec dt_X0_hasRank 6 rfl) ic_1 ?_
      refine g_goto C (tgt := 17) (gdec dt_X0_hasRank 7 rfl) (by decide) ?_
      cases hf
      exact g_zret C (Or.inr rfl) rfl (gdec dt_X0_hasRank 9 rfl)
set_option maxHeartbeats 4000000 in
set_option maxRecDepth 100000 in
theorem c_X0_hasClerk (l : Launch) (D : va_G) (cA ad : Nat → Nat) (hin : gInj ad shB.length) (w : GW) (x1 : Int32) (q : Int32) (hf : F_X0_hasClerk w x1 = some q) : gMet l yX0_hasClerk cX0_hasClerk 2 (some .boolean) 1 120 D cA ad shB [.ref 0, .int x1] w (some (.int q)) w := by
  refine g_entry (by decide) hin (Nat.le_of_ble_eq_true rfl) ?_
  intro p e s m args below meth c C
  unfold F_X0_hasClerk at hf
  show gW p l e (gRm 1 120) s m args below meth c D cA ad shB 2 0 0 (gQ below D cA ad shB (some (.int q)) w args s) 0 [(0, .ref 0), (1, .int x1)] [] w
  refine g_iload_n C (gdec dt_X0_hasClerk 0 rfl) (i := 1) rfl rfl ?_
  refine g_if_lt C (tgt := 16) (gdec dt_X0_hasClerk 1 rfl) (by decide) (fun hc1 => ?_) (fun hc1 => ?_)
  · have hf := (if_pos hc1).symm.trans hf
    refine g_iconst C (gdec dt_X0_hasClerk 8 rfl) ic_0 ?_
    cases hf
    exact g_zret C (Or.inl rfl) rfl (gdec dt_X0_hasClerk 9 rfl)
  · have hf := (if_neg hc1).symm.trans hf
    refine g_iload_n C (gdec dt_X0_hasClerk 2 rfl) (i := 1) rfl rfl ?_
    refine g_aload_n C (gdec dt_X0_hasClerk 3 rfl) (i := 0) rfl rfl ?_
    refine g_geti C kf_X0_68 rfl rfl (gdec dt_X0_hasClerk 4 rfl) ?_
    refine g_icmp_ge C (tgt := 16) (gdec dt_X0_hasClerk 5 rfl) (by decide) (fun hc2 => ?_) (fun hc2 => ?_)
    · have hf := (if_pos hc2).symm.trans hf
      refine g_iconst C (gdec dt_X0_hasClerk 8 rfl) ic_0 ?_
      cases hf
      exact g_zret C (Or.inl rfl) rfl (gdec dt_X0_hasClerk 9 rfl)
    · have hf := (if_neg hc2).symm.trans hf
      refine g_iconst C (gdec dt_X0_hasClerk 6 rfl) ic_1 ?_
      refine g_goto C (tgt := 17) (gdec dt_X0_hasClerk 7 rfl) (by decide) ?_
      cases hf
      exact g_zret C (Or.inr rfl) rfl (gdec dt_X0_hasClerk 9 rfl)
set_option maxHeartbeats 4000000 in
set_option maxRecDepth 100000 in
theorem c_X0_hasClient (l : Launch) (D : va_G) (cA ad : Nat → Nat) (hin : gInj ad shB.length) (w : GW) (x1 : Int32) (q : Int32) (hf : F_X0_hasClient w x1 = some q) : gMet l yX0_hasClient cX0_hasClient 2 (some .boolean) 1 120 D cA ad shB [.ref 0, .int x1] w (some (.int q)) w := by
  refine g_entry (by decide) hin (Nat.le_of_ble_eq_true rfl) ?_
  intro p e s m args below meth c C
  unfold F_X0_hasClient at hf
  show gW p l e (gRm 1 120) s m args below meth c D cA ad shB 2 0 0 (gQ below D cA ad shB (some (.int q)) w args s) 0 [(0, .ref 0), (1, .int x1)] [] w
  refine g_iload_n C (gdec dt_X0_hasClient 0 rfl) (i := 1) rfl rfl ?_
  refine g_if_lt C (tgt := 16) (gdec dt_X0_hasClient 1 rfl) (by decide) (fun hc1 => ?_) (fun hc1 => ?_)
  · have hf := (if_pos hc1).symm.trans hf
    refine g_iconst C (gdec dt_X0_hasClient 8 rfl) ic_0 ?_
    cases hf
    exact g_zret C (Or.inl rfl) rfl (gdec dt_X0_hasClient 9 rfl)
  · have hf := (if_neg hc1).symm.trans hf
    refine g_iload_n C (gdec dt_X0_hasClient 2 rfl) (i := 1) rfl rfl ?_
    refine g_aload_n C (gdec dt_X0_hasClient 3 rfl) (i := 0) rfl rfl ?_
    refine g_geti C kf_X0_71 rfl rfl (gdec dt_X0_hasClient 4 rfl) ?_
    refine g_icmp_ge C (tgt := 16) (gdec dt_X0_hasClient 5 rfl) (by decide) (fun hc2 => ?_) (fun hc2 => ?_)
    · have hf := (if_pos hc2).symm.trans hf
      refine g_iconst C (gdec dt_X0_hasClient 8 rfl) ic_0 ?_
      cases hf
      exact g_zret C (Or.inl rfl) rfl (gdec dt_X0_hasClient 9 rfl)
    · have hf := (if_neg hc2).symm.trans hf
      refine g_iconst C (gdec dt_X0_hasClient 6 rfl) ic_1 ?_
      refine g_goto C (tgt := 17) (gdec dt_X0_hasClient 7 rfl) (by decide) ?_
      cases hf
      exact g_zret C (Or.inr rfl) rfl (gdec dt_X0_hasClient 9 rfl)
set_option maxHeartbeats 4000000 in
set_option maxRecDepth 100000 in
theorem c_X0_addCorner (l : Launch) (D : va_G) (cA ad : Nat → Nat) (hin : gInj ad shB.length) (w : GW) (x1 : Int32) (q : GW) (hf : F_X0_addCorner x1 w = some q) : gMet l yX0_addCorner cX0_addCorner 2 none 1 120 D cA ad shB [.ref 0, .int x1] w none q := by
  refine g_entry (by decide) hin (Nat.le_of_ble_eq_true rfl) ?_
  intro p e s m args below meth c C
  unfold F_X0_addCorner at hf
  show gW p l e (gRm 1 120) s m args below meth c D cA ad shB 2 0 0 (gQ below D cA ad shB none q args s) 0 [(0, .ref 0), (1, .int x1)] [] w
  refine g_aload_n C (gdec dt_X0_addCorner 0 rfl) (i := 0) rfl rfl ?_
  refine g_geti C kf_X0_62 rfl rfl (gdec dt_X0_addCorner 1 rfl) ?_
  refine g_bipush C (gdec dt_X0_addCorner 2 rfl) bc_7 ?_
  refine g_icmp_ge C (tgt := 29) (gdec dt_X0_addCorner 3 rfl) (by decide) (fun hc1 => ?_) (fun hc1 => ?_)
  · have hf := (if_pos hc1).symm.trans hf
    cases hf
    exact g_vret C rfl (gdec dt_X0_addCorner 16 rfl)
  · have hf := (if_neg hc1).symm.trans hf
    refine g_aload_n C (gdec dt_X0_addCorner 4 rfl) (i := 0) rfl rfl ?_
    refine g_getr C (j := 1) kf_X0_9 rfl rfl (gdec dt_X0_addCorner 5 rfl) ?_
    refine g_aload_n C (gdec dt_X0_addCorner 6 rfl) (i := 0) rfl rfl ?_
    refine g_geti C kf_X0_62 rfl rfl (gdec dt_X0_addCorner 7 rfl) ?_
    refine g_iload_n C (gdec dt_X0_addCorner 8 rfl) (i := 1) rfl rfl ?_
    obtain ⟨hg2, hf⟩ := gif hf
    refine g_iast C (i := 1) rfl hg2 rfl (gdec dt_X0_addCorner 9 rfl) ?_
    refine g_aload_n C (gdec dt_X0_addCorner 10 rfl) (i := 0) rfl rfl ?_
    refine g_dup C (gdec dt_X0_addCorner 11 rfl) rfl ?_
    refine g_getiv C kf_X0_62 rfl rfl (gdec dt_X0_addCorner 12 rfl) (v := (w.1 0 3)) rfl ?_
    refine g_iconst C (gdec dt_X0_addCorner 13 rfl) ic_1 ?_
    refine g_iadd C (gdec dt_X0_addCorner 14 rfl) ?_
    refine g_puti C kf_X0_62 rfl rfl (gdec dt_X0_addCorner 15 rfl) ?_
    cases hf
    exact g_vret C rfl (gdec dt_X0_addCorner 16 rfl)
set_option maxHeartbeats 4000000 in
set_option maxRecDepth 100000 in
theorem c_X0_leastNextAt (l : Launch) (D : va_G) (cA ad : Nat → Nat) (hin : gInj ad shB.length) (w : GW) (q : Int32) (hf : F_X0_leastNextAt w = some q) : gMet l yX0_leastNextAt cX0_leastNextAt 1 (some .int) 2 141 D cA ad shB [.ref 0] w (some (.int q)) w := by
  refine g_entry (by decide) hin (Nat.le_of_ble_eq_true rfl) ?_
  intro p e s m args below meth c C
  unfold F_X0_leastNextAt at hf
  show gW p l e (gRm 2 141) s m args below meth c D cA ad shB 1 0 0 (gQ below D cA ad shB (some (.int q)) w args s) 0 [(0, .ref 0)] [] w
  refine g_aload_n C (gdec dt_X0_leastNextAt 0 rfl) (i := 0) rfl rfl ?_
  refine g_aload_n C (gdec dt_X0_leastNextAt 1 rfl) (i := 0) rfl rfl ?_
  refine g_geti C kf_X0_65 rfl rfl (gdec dt_X0_leastNextAt 2 rfl) ?_
  refine g_iconst C (gdec dt_X0_leastNextAt 3 rfl) ic_1 ?_
  refine g_isub C (gdec dt_X0_leastNextAt 4 rfl) ?_
  obtain ⟨q1, hq1, hf⟩ := Option.bind_eq_some_iff.mp hf
  refine g_invV [.int ((w.1 0 4) - (1 : Int32))] [] C (c_X0_hasRank l D cA _ (gCi C) w ((w.1 0 4) - (1 : Int32)) q1 hq1) kT_X0_hasRank kl_X0_80 kim_X0_hasRank kse_X0_hasRank rfl rfl (i := 0) rfl rfl ⟨by decide, by decide⟩ gk0 (Nat.le_of_ble_eq_true rfl) (gdec dt_X0_leastNextAt 5 rfl) rfl (st2 := [.int q1]) rfl ?_
  refine g_if_eq C (tgt := 29) (gdec dt_X0_leastNextAt 6 rfl) (by decide) (fun hc2 => ?_) (fun hc2 => ?_)
  · have hf := (if_pos hc2).symm.trans hf
    refine g_iconst C (gdec dt_X0_leastNextAt 17 rfl) ic_0 ?_
    cases hf
    exact g_iret C rfl (gdec dt_X0_leastNextAt 18 rfl)
  · have hf := (if_neg hc2).symm.trans hf
    refine g_aload_n C (gdec dt_X0_leastNextAt 7 rfl) (i := 0) rfl rfl ?_
    refine g_getr C (j := 2) kf_X0_15 rfl rfl (gdec dt_X0_leastNextAt 8 rfl) ?_
    refine g_aload_n C (gdec dt_X0_leastNextAt 9 rfl) (i := 0) rfl rfl ?_
    refine g_geti C kf_X0_65 rfl rfl (gdec dt_X0_leastNextAt 10 rfl) ?_
    refine g_iconst C (gdec dt_X0_leastNextAt 11 rfl) ic_1 ?_
    refine g_isub C (gdec dt_X0_leastNextAt 12 rfl) ?_
    obtain ⟨hg3, hf⟩ := gif hf
    refine g_iald C (i := 2) rfl hg3 rfl (gdec dt_X0_leastNextAt 13 rfl) ?_
    refine g_iconst C (gdec dt_X0_leastNextAt 14 rfl) ic_1 ?_
    refine g_iadd C (gdec dt_X0_leastNextAt 15 rfl) ?_
    refine g_goto C (tgt := 30) (gdec dt_X0_leastNextAt 16 rfl) (by decide) ?_
    cases hf
    exact g_iret C rfl (gdec dt_X0_leastNextAt 18 rfl)
set_option maxHeartbeats 4000000 in
set_option maxRecDepth 100000 in
theorem c_X0_addRank (l : Launch) (D : va_G) (cA ad : Nat → Nat) (hin : gInj ad shB.length) (w : GW) (x1 : Int32) (x2 : Int32) (q : GW) (hf : F_X0_addRank x1 x2 w = some q) : gMet l yX0_addRank cX0_addRank 3 none 1 120 D cA ad shB [.ref 0, .int x1, .int x2] w none q := by
  refine g_entry (by decide) hin (Nat.le_of_ble_eq_true rfl) ?_
  intro p e s m args below meth c C
  unfold F_X0_addRank at hf
  show gW p l e (gRm 1 120) s m args below meth c D cA ad shB 3 0 0 (gQ below D cA ad shB none q args s) 0 [(0, .ref 0), (1, .int x1), (2, .int x2)] [] w
  refine g_aload_n C (gdec dt_X0_addRank 0 rfl) (i := 0) rfl rfl ?_
  refine g_geti C kf_X0_65 rfl rfl (gdec dt_X0_addRank 1 rfl) ?_
  refine g_iconst C (gdec dt_X0_addRank 2 rfl) ic_5 ?_
  refine g_icmp_ge C (tgt := 38) (gdec dt_X0_addRank 3 rfl) (by decide) (fun hc1 => ?_) (fun hc1 => ?_)
  · have hf := (if_pos hc1).symm.trans hf
    cases hf
    exact g_vret C rfl (gdec dt_X0_addRank 22 rfl)
  · have hf := (if_neg hc1).symm.trans hf
    refine g_aload_n C (gdec dt_X0_addRank 4 rfl) (i := 0) rfl rfl ?_
    refine g_getr C (j := 2) kf_X0_15 rfl rfl (gdec dt_X0_addRank 5 rfl) ?_
    refine g_aload_n C (gdec dt_X0_addRank 6 rfl) (i := 0) rfl rfl ?_
    refine g_geti C kf_X0_65 rfl rfl (gdec dt_X0_addRank 7 rfl) ?_
    refine g_iload_n C (gdec dt_X0_addRank 8 rfl) (i := 1) rfl rfl ?_
    obtain ⟨hg2, hf⟩ := gif hf
    refine g_iast C (i := 2) rfl hg2 rfl (gdec dt_X0_addRank 9 rfl) ?_
    refine g_aload_n C (gdec dt_X0_addRank 10 rfl) (i := 0) rfl rfl ?_
    refine g_getr C (j := 3) kf_X0_18 rfl rfl (gdec dt_X0_addRank 11 rfl) ?_
    refine g_aload_n C (gdec dt_X0_addRank 12 rfl) (i := 0) rfl rfl ?_
    refine g_getiv C kf_X0_65 rfl rfl (gdec dt_X0_addRank 13 rfl) (v := (w.1 0 4)) rfl ?_
    refine g_iload_n C (gdec dt_X0_addRank 14 rfl) (i := 2) rfl rfl ?_
    refine g_iast C (i := 3) rfl hg2 rfl (gdec dt_X0_addRank 15 rfl) ?_
    refine g_aload_n C (gdec dt_X0_addRank 16 rfl) (i := 0) rfl rfl ?_
    refine g_dup C (gdec dt_X0_addRank 17 rfl) rfl ?_
    refine g_getiv C kf_X0_65 rfl rfl (gdec dt_X0_addRank 18 rfl) (v := (w.1 0 4)) rfl ?_
    refine g_iconst C (gdec dt_X0_addRank 19 rfl) ic_1 ?_
    refine g_iadd C (gdec dt_X0_addRank 20 rfl) ?_
    refine g_puti C kf_X0_65 rfl rfl (gdec dt_X0_addRank 21 rfl) ?_
    cases hf
    exact g_vret C rfl (gdec dt_X0_addRank 22 rfl)
set_option maxHeartbeats 4000000 in
set_option maxRecDepth 100000 in
theorem c_X0_addClerk (l : Launch) (D : va_G) (cA ad : Nat → Nat) (hin : gInj ad shB.length) (w : GW) (x1 : Int64) (x3 : Int32) (q : (Int32 × GW)) (hf : F_X0_addClerk x1 x3 w = some q) : gMet l yX0_addClerk cX0_addClerk 4 (some .int) 1 120 D cA ad shB [.ref 0, .long x1, .int x3] w (some (.int q.1)) q.2 := by
  refine g_entry (by decide) hin (Nat.le_of_ble_eq_true rfl) ?_
  intro p e s m args below meth c C
  unfold F_X0_addClerk at hf
  show gW p l e (gRm 1 120) s m args below meth c D cA ad shB 4 0 0 (gQ below D cA ad shB (some (.int q.1)) q.2 args s) 0 [(0, .ref 0), (1, .long x1), (3, .int x3)] [] w
  refine g_aload_n C (gdec dt_X0_addClerk 0 rfl) (i := 0) rfl rfl ?_
  refine g_geti C kf_X0_68 rfl rfl (gdec dt_X0_addClerk 1 rfl) ?_
  refine g_bipush C (gdec dt_X0_addClerk 2 rfl) bc_6 ?_
  refine g_icmp_lt C (tgt := 11) (gdec dt_X0_addClerk 3 rfl) (by decide) (fun hc1 => ?_) (fun hc1 => ?_)
  · have hf := (if_pos hc1).symm.trans hf
    refine g_aload_n C (gdec dt_X0_addClerk 6 rfl) (i := 0) rfl rfl ?_
    refine g_getr C (j := 4) kf_X0_21 rfl rfl (gdec dt_X0_addClerk 7 rfl) ?_
    refine g_aload_n C (gdec dt_X0_addClerk 8 rfl) (i := 0) rfl rfl ?_
    refine g_geti C kf_X0_68 rfl rfl (gdec dt_X0_addClerk 9 rfl) ?_
    refine g_lload_n C (gdec dt_X0_addClerk 10 rfl) (i := 1) rfl rfl ?_
    obtain ⟨hg2, hf⟩ := gif hf
    refine g_last C (i := 4) rfl hg2 rfl (gdec dt_X0_addClerk 11 rfl) ?_
    refine g_aload_n C (gdec dt_X0_addClerk 12 rfl) (i := 0) rfl rfl ?_
    refine g_getr C (j := 5) kf_X0_25 rfl rfl (gdec dt_X0_addClerk 13 rfl) ?_
    refine g_aload_n C (gdec dt_X0_addClerk 14 rfl) (i := 0) rfl rfl ?_
    refine g_getiv C kf_X0_68 rfl rfl (gdec dt_X0_addClerk 15 rfl) (v := (w.1 0 5)) rfl ?_
    refine g_iload_n C (gdec dt_X0_addClerk 16 rfl) (i := 3) rfl rfl ?_
    refine g_iast C (i := 5) rfl hg2 rfl (gdec dt_X0_addClerk 17 rfl) ?_
    refine g_aload_n C (gdec dt_X0_addClerk 18 rfl) (i := 0) rfl rfl ?_
    refine g_getr C (j := 6) kf_X0_28 rfl rfl (gdec dt_X0_addClerk 19 rfl) ?_
    refine g_aload_n C (gdec dt_X0_addClerk 20 rfl) (i := 0) rfl rfl ?_
    refine g_getiv C kf_X0_68 rfl rfl (gdec dt_X0_addClerk 21 rfl) (v := (w.1 0 5)) rfl ?_
    refine g_iconst C (gdec dt_X0_addClerk 22 rfl) ic_0 ?_
    refine g_iast C (i := 6) rfl hg2 rfl (gdec dt_X0_addClerk 23 rfl) ?_
    refine g_aload_n C (gdec dt_X0_addClerk 24 rfl) (i := 0) rfl rfl ?_
    refine g_getr C (j := 7) kf_X0_31 rfl rfl (gdec dt_X0_addClerk 25 rfl) ?_
    refine g_aload_n C (gdec dt_X0_addClerk 26 rfl) (i := 0) rfl rfl ?_
    refine g_getiv C kf_X0_68 rfl rfl (gdec dt_X0_addClerk 27 rfl) (v := (w.1 0 5)) rfl ?_
    refine g_iconst C (gdec dt_X0_addClerk 28 rfl) ic_0 ?_
    refine g_iast C (i := 7) rfl hg2 rfl (gdec dt_X0_addClerk 29 rfl) ?_
    refine g_aload_n C (gdec dt_X0_addClerk 30 rfl) (i := 0) rfl rfl ?_
    refine g_getr C (j := 8) kf_X0_34 rfl rfl (gdec dt_X0_addClerk 31 rfl) ?_
    refine g_aload_n C (gdec dt_X0_addClerk 32 rfl) (i := 0) rfl rfl ?_
    refine g_getiv C kf_X0_68 rfl rfl (gdec dt_X0_addClerk 33 rfl) (v := (w.1 0 5)) rfl ?_
    refine g_iconst C (gdec dt_X0_addClerk 34 rfl) ic_0 ?_
    refine g_iast C (i := 8) rfl hg2 rfl (gdec dt_X0_addClerk 35 rfl) ?_
    refine g_aload_n C (gdec dt_X0_addClerk 36 rfl) (i := 0) rfl rfl ?_
    refine g_getr C (j := 9) kf_X0_37 rfl rfl (gdec dt_X0_addClerk 37 rfl) ?_
    refine g_aload_n C (gdec dt_X0_addClerk 38 rfl) (i := 0) rfl rfl ?_
    refine g_getiv C kf_X0_68 rfl rfl (gdec dt_X0_addClerk 39 rfl) (v := (w.1 0 5)) rfl ?_
    refine g_iconst C (gdec dt_X0_addClerk 40 rfl) ic_0 ?_
    refine g_iast C (i := 9) rfl hg2 rfl (gdec dt_X0_addClerk 41 rfl) ?_
    refine g_aload_n C (gdec dt_X0_addClerk 42 rfl) (i := 0) rfl rfl ?_
    refine g_getr C (j := 10) kf_X0_40 rfl rfl (gdec dt_X0_addClerk 43 rfl) ?_
    refine g_aload_n C (gdec dt_X0_addClerk 44 rfl) (i := 0) rfl rfl ?_
    refine g_getiv C kf_X0_68 rfl rfl (gdec dt_X0_addClerk 45 rfl) (v := (w.1 0 5)) rfl ?_
    refine g_iconst C (gdec dt_X0_addClerk 46 rfl) ic_0 ?_
    refine g_iast C (i := 10) rfl hg2 rfl (gdec dt_X0_addClerk 47 rfl) ?_
    refine g_aload_n C (gdec dt_X0_addClerk 48 rfl) (i := 0) rfl rfl ?_
    refine g_dup C (gdec dt_X0_addClerk 49 rfl) rfl ?_
    refine g_getiv C kf_X0_68 rfl rfl (gdec dt_X0_addClerk 50 rfl) (v := (w.1 0 5)) rfl ?_
    refine g_iconst C (gdec dt_X0_addClerk 51 rfl) ic_1 ?_
    refine g_iadd C (gdec dt_X0_addClerk 52 rfl) ?_
    refine g_puti C kf_X0_68 rfl rfl (gdec dt_X0_addClerk 53 rfl) ?_
    refine g_aload_n C (gdec dt_X0_addClerk 54 rfl) (i := 0) rfl rfl ?_
    refine g_getiv C kf_X0_68 rfl rfl (gdec dt_X0_addClerk 55 rfl) (v := ((w.1 0 5) + (1 : Int32))) rfl ?_
    refine g_iconst C (gdec dt_X0_addClerk 56 rfl) ic_1 ?_
    refine g_isub C (gdec dt_X0_addClerk 57 rfl) ?_
    cases hf
    exact g_iret C rfl (gdec dt_X0_addClerk 58 rfl)
  · have hf := (if_neg hc1).symm.trans hf
    refine g_iconst C (gdec dt_X0_addClerk 4 rfl) ic_m1 ?_
    cases hf
    exact g_iret C rfl (gdec dt_X0_addClerk 5 rfl)
set_option maxHeartbeats 4000000 in
set_option maxRecDepth 100000 in
theorem c_X0_addClient (l : Launch) (D : va_G) (cA ad : Nat → Nat) (hin : gInj ad shB.length) (w : GW) (x1 : Int32) (x2 : Int32) (q : (Int32 × GW)) (hf : F_X0_addClient x1 x2 w = some q) : gMet l yX0_addClient cX0_addClient 3 (some .int) 1 120 D cA ad shB [.ref 0, .int x1, .int x2] w (some (.int q.1)) q.2 := by
  refine g_entry (by decide) hin (Nat.le_of_ble_eq_true rfl) ?_
  intro p e s m args below meth c C
  unfold F_X0_addClient at hf
  show gW p l e (gRm 1 120) s m args below meth c D cA ad shB 3 0 0 (gQ below D cA ad shB (some (.int q.1)) q.2 args s) 0 [(0, .ref 0), (1, .int x1), (2, .int x2)] [] w
  refine g_aload_n C (gdec dt_X0_addClient 0 rfl) (i := 0) rfl rfl ?_
  refine g_geti C kf_X0_71 rfl rfl (gdec dt_X0_addClient 1 rfl) ?_
  refine g_bipush C (gdec dt_X0_addClient 2 rfl) bc_8 ?_
  refine g_icmp_lt C (tgt := 11) (gdec dt_X0_addClient 3 rfl) (by decide) (fun hc1 => ?_) (fun hc1 => ?_)
  · have hf := (if_pos hc1).symm.trans hf
    refine g_aload_n C (gdec dt_X0_addClient 6 rfl) (i := 0) rfl rfl ?_
    refine g_getr C (j := 11) kf_X0_43 rfl rfl (gdec dt_X0_addClient 7 rfl) ?_
    refine g_aload_n C (gdec dt_X0_addClient 8 rfl) (i := 0) rfl rfl ?_
    refine g_geti C kf_X0_71 rfl rfl (gdec dt_X0_addClient 9 rfl) ?_
    refine g_iload_n C (gdec dt_X0_addClient 10 rfl) (i := 1) rfl rfl ?_
    obtain ⟨hg2, hf⟩ := gif hf
    refine g_iast C (i := 11) rfl hg2 rfl (gdec dt_X0_addClient 11 rfl) ?_
    refine g_aload_n C (gdec dt_X0_addClient 12 rfl) (i := 0) rfl rfl ?_
    refine g_getr C (j := 12) kf_X0_46 rfl rfl (gdec dt_X0_addClient 13 rfl) ?_
    refine g_aload_n C (gdec dt_X0_addClient 14 rfl) (i := 0) rfl rfl ?_
    refine g_getiv C kf_X0_71 rfl rfl (gdec dt_X0_addClient 15 rfl) (v := (w.1 0 6)) rfl ?_
    refine g_iload_n C (gdec dt_X0_addClient 16 rfl) (i := 2) rfl rfl ?_
    refine g_iast C (i := 12) rfl hg2 rfl (gdec dt_X0_addClient 17 rfl) ?_
    refine g_aload_n C (gdec dt_X0_addClient 18 rfl) (i := 0) rfl rfl ?_
    refine g_dup C (gdec dt_X0_addClient 19 rfl) rfl ?_
    refine g_getiv C kf_X0_71 rfl rfl (gdec dt_X0_addClient 20 rfl) (v := (w.1 0 6)) rfl ?_
    refine g_iconst C (gdec dt_X0_addClient 21 rfl) ic_1 ?_
    refine g_iadd C (gdec dt_X0_addClient 22 rfl) ?_
    refine g_puti C kf_X0_71 rfl rfl (gdec dt_X0_addClient 23 rfl) ?_
    refine g_aload_n C (gdec dt_X0_addClient 24 rfl) (i := 0) rfl rfl ?_
    refine g_getiv C kf_X0_71 rfl rfl (gdec dt_X0_addClient 25 rfl) (v := ((w.1 0 6) + (1 : Int32))) rfl ?_
    refine g_iconst C (gdec dt_X0_addClient 26 rfl) ic_1 ?_
    refine g_isub C (gdec dt_X0_addClient 27 rfl) ?_
    cases hf
    exact g_iret C rfl (gdec dt_X0_addClient 28 rfl)
  · have hf := (if_neg hc1).symm.trans hf
    refine g_iconst C (gdec dt_X0_addClient 4 rfl) ic_m1 ?_
    cases hf
    exact g_iret C rfl (gdec dt_X0_addClient 5 rfl)
set_option maxHeartbeats 4000000 in
set_option maxRecDepth 100000 in
theorem Lb_X0_sitterIn_2 {p : Program} {l : Launch} {e : Env} {s : State} {m : MethodId} {args : Array Value} {below : List Frame} {meth : Method} {c : Code} {D : va_G} {cA ad : Nat → Nat} {w : GW} {q : Int32} (C : gC p c cX0_sitterIn meth m s args 3 (some .int) RX0 D cA ad shB) {k2 : Int32 → Int32 → Option Int32} (hk2 : ∀ (x1 : Int32) (x2 : Int32), k2 x1 x2 = some q → gW p l e (gRm 1 120) s m args below meth c D cA ad shB 3 0 0 (gQ below D cA ad shB (some (.int q)) w args s) 2 [(0, .ref 0), (1, .int x1), (2, .int x2)] [] w) (x1 : Int32) (x2 : Int32) (hf : b_X0_sitterIn_2 k2 w x1 x2 = some q) : gW p l e (gRm 1 120) s m args below meth c D cA ad shB 3 0 0 (gQ below D cA ad shB (some (.int q)) w args s) 2 [(0, .ref 0), (1, .int x1), (2, .int x2)] [] w := by
  unfold b_X0_sitterIn_2 at hf
  refine g_iload_n C (gdec dt_X0_sitterIn 2 rfl) (i := 2) rfl rfl ?_
  refine g_aload_n C (gdec dt_X0_sitterIn 3 rfl) (i := 0) rfl rfl ?_
  refine g_geti C kf_X0_68 rfl rfl (gdec dt_X0_sitterIn 4 rfl) ?_
  refine g_icmp_ge C (tgt := 28) (gdec dt_X0_sitterIn 5 rfl) (by decide) (fun hc1 => ?_) (fun hc1 => ?_)
  · have hf := (if_pos hc1).symm.trans hf
    refine g_iconst C (gdec dt_X0_sitterIn 16 rfl) ic_m1 ?_
    cases hf
    exact g_iret C rfl (gdec dt_X0_sitterIn 17 rfl)
  · have hf := (if_neg hc1).symm.trans hf
    refine g_aload_n C (gdec dt_X0_sitterIn 6 rfl) (i := 0) rfl rfl ?_
    refine g_getr C (j := 5) kf_X0_25 rfl rfl (gdec dt_X0_sitterIn 7 rfl) ?_
    refine g_iload_n C (gdec dt_X0_sitterIn 8 rfl) (i := 2) rfl rfl ?_
    obtain ⟨hg2, hf⟩ := gif hf
    refine g_iald C (i := 5) rfl hg2 rfl (gdec dt_X0_sitterIn 9 rfl) ?_
    refine g_iload_n C (gdec dt_X0_sitterIn 10 rfl) (i := 1) rfl rfl ?_
    refine g_icmp_ne C (tgt := 22) (gdec dt_X0_sitterIn 11 rfl) (by decide) (fun hc3 => ?_) (fun hc3 => ?_)
    · have hf := (if_neg hc3).symm.trans hf
      refine g_iinc C (gdec dt_X0_sitterIn 14 rfl) (kk := 2) rfl (v := (x2 + (1 : Int32))) rfl (by decide) (lo2 := [(2, .int (x2 + (1 : Int32))), (0, .ref 0), (1, .int x1)]) rfl ?_
      refine g_goto C (tgt := 2) (gdec dt_X0_sitterIn 15 rfl) (by decide) ?_
      refine g_sub [1, 2, 0] (lo2 := [(0, .ref 0), (1, .int x1), (2, .int (x2 + (1 : Int32)))]) rfl ?_
      exact hk2 x1 (x2 + (1 : Int32)) hf
    · have hf := (if_pos hc3).symm.trans hf
      refine g_iload_n C (gdec dt_X0_sitterIn 12 rfl) (i := 2) rfl rfl ?_
      cases hf
      exact g_iret C rfl (gdec dt_X0_sitterIn 13 rfl)
theorem L_X0_sitterIn_2 {p : Program} {l : Launch} {e : Env} {s : State} {m : MethodId} {args : Array Value} {below : List Frame} {meth : Method} {c : Code} {D : va_G} {cA ad : Nat → Nat} {w : GW} {q : Int32} (C : gC p c cX0_sitterIn meth m s args 3 (some .int) RX0 D cA ad shB) : ∀ (n : Nat) (x1 : Int32) (x2 : Int32), f_X0_sitterIn_2 w n x1 x2 = some q → gW p l e (gRm 1 120) s m args below meth c D cA ad shB 3 0 0 (gQ below D cA ad shB (some (.int q)) w args s) 2 [(0, .ref 0), (1, .int x1), (2, .int x2)] [] w := by
  intro n
  induction n with
  | zero => intro _ _ hf; cases hf
  | succ n ih => intro x1 x2 hf; exact Lb_X0_sitterIn_2 C ih x1 x2 hf
set_option maxHeartbeats 4000000 in
set_option maxRecDepth 100000 in
theorem c_X0_sitterIn (l : Launch) (D : va_G) (cA ad : Nat → Nat) (hin : gInj ad shB.length) (w : GW) (x1 : Int32) (q : Int32) (hf : F_X0_sitterIn w x1 = some q) : gMet l yX0_sitterIn cX0_sitterIn 3 (some .int) 1 120 D cA ad shB [.ref 0, .int x1] w (some (.int q)) w := by
  refine g_entry (by decide) hin (Nat.le_of_ble_eq_true rfl) ?_
  intro p e s m args below meth c C
  unfold F_X0_sitterIn at hf
  show gW p l e (gRm 1 120) s m args below meth c D cA ad shB 3 0 0 (gQ below D cA ad shB (some (.int q)) w args s) 0 [(0, .ref 0), (1, .int x1)] [] w
  refine g_iconst C (gdec dt_X0_sitterIn 0 rfl) ic_0 ?_
  refine g_istore_n C (gdec dt_X0_sitterIn 1 rfl) (i := 2) rfl (by decide) (lo2 := [(2, .int (0 : Int32)), (0, .ref 0), (1, .int x1)]) rfl ?_
  refine g_sub [1, 2, 0] (lo2 := [(0, .ref 0), (1, .int x1), (2, .int (0 : Int32))]) rfl ?_
  exact L_X0_sitterIn_2 C FU x1 (0 : Int32) hf
set_option maxHeartbeats 4000000 in
set_option maxRecDepth 100000 in
theorem Lb_X0_clerkNamed_2 {p : Program} {l : Launch} {e : Env} {s : State} {m : MethodId} {args : Array Value} {below : List Frame} {meth : Method} {c : Code} {D : va_G} {cA ad : Nat → Nat} {w : GW} {q : Int32} (C : gC p c cX0_clerkNamed meth m s args 4 (some .int) RX0 D cA ad shB) {k2 : Int64 → Int32 → Option Int32} (hk2 : ∀ (x1 : Int64) (x3 : Int32), k2 x1 x3 = some q → gW p l e (gRm 1 120) s m args below meth c D cA ad shB 4 0 0 (gQ below D cA ad shB (some (.int q)) w args s) 2 [(0, .ref 0), (1, .long x1), (3, .int x3)] [] w) (x1 : Int64) (x3 : Int32) (hf : b_X0_clerkNamed_2 k2 w x1 x3 = some q) : gW p l e (gRm 1 120) s m args below meth c D cA ad shB 4 0 0 (gQ below D cA ad shB (some (.int q)) w args s) 2 [(0, .ref 0), (1, .long x1), (3, .int x3)] [] w := by
  unfold b_X0_clerkNamed_2 at hf
  refine g_iload_n C (gdec dt_X0_clerkNamed 2 rfl) (i := 3) rfl rfl ?_
  refine g_aload_n C (gdec dt_X0_clerkNamed 3 rfl) (i := 0) rfl rfl ?_
  refine g_geti C kf_X0_68 rfl rfl (gdec dt_X0_clerkNamed 4 rfl) ?_
  refine g_icmp_ge C (tgt := 29) (gdec dt_X0_clerkNamed 5 rfl) (by decide) (fun hc1 => ?_) (fun hc1 => ?_)
  · have hf := (if_pos hc1).symm.trans hf
    refine g_iconst C (gdec dt_X0_clerkNamed 17 rfl) ic_m1 ?_
    cases hf
    exact g_iret C rfl (gdec dt_X0_clerkNamed 18 rfl)
  · have hf := (if_neg hc1).symm.trans hf
    refine g_aload_n C (gdec dt_X0_clerkNamed 6 rfl) (i := 0) rfl rfl ?_
    refine g_getr C (j := 4) kf_X0_21 rfl rfl (gdec dt_X0_clerkNamed 7 rfl) ?_
    refine g_iload_n C (gdec dt_X0_clerkNamed 8 rfl) (i := 3) rfl rfl ?_
    obtain ⟨hg2, hf⟩ := gif hf
    refine g_lald C (i := 4) rfl hg2 rfl (gdec dt_X0_clerkNamed 9 rfl) ?_
    refine g_lload_n C (gdec dt_X0_clerkNamed 10 rfl) (i := 1) rfl rfl ?_
    refine g_lcmp C (gdec dt_X0_clerkNamed 11 rfl) ?_
    refine g_if_ne C (tgt := 23) (gdec dt_X0_clerkNamed 12 rfl) (by decide) (fun hc3 => ?_) (fun hc3 => ?_)
    · have hf := (if_neg hc3).symm.trans hf
      refine g_iinc C (gdec dt_X0_clerkNamed 15 rfl) (kk := 2) rfl (v := (x3 + (1 : Int32))) rfl (by decide) (lo2 := [(3, .int (x3 + (1 : Int32))), (0, .ref 0), (1, .long x1)]) rfl ?_
      refine g_goto C (tgt := 2) (gdec dt_X0_clerkNamed 16 rfl) (by decide) ?_
      refine g_sub [1, 2, 0] (lo2 := [(0, .ref 0), (1, .long x1), (3, .int (x3 + (1 : Int32)))]) rfl ?_
      exact hk2 x1 (x3 + (1 : Int32)) hf
    · have hf := (if_pos hc3).symm.trans hf
      refine g_iload_n C (gdec dt_X0_clerkNamed 13 rfl) (i := 3) rfl rfl ?_
      cases hf
      exact g_iret C rfl (gdec dt_X0_clerkNamed 14 rfl)
theorem L_X0_clerkNamed_2 {p : Program} {l : Launch} {e : Env} {s : State} {m : MethodId} {args : Array Value} {below : List Frame} {meth : Method} {c : Code} {D : va_G} {cA ad : Nat → Nat} {w : GW} {q : Int32} (C : gC p c cX0_clerkNamed meth m s args 4 (some .int) RX0 D cA ad shB) : ∀ (n : Nat) (x1 : Int64) (x3 : Int32), f_X0_clerkNamed_2 w n x1 x3 = some q → gW p l e (gRm 1 120) s m args below meth c D cA ad shB 4 0 0 (gQ below D cA ad shB (some (.int q)) w args s) 2 [(0, .ref 0), (1, .long x1), (3, .int x3)] [] w := by
  intro n
  induction n with
  | zero => intro _ _ hf; cases hf
  | succ n ih => intro x1 x3 hf; exact Lb_X0_clerkNamed_2 C ih x1 x3 hf
set_option maxHeartbeats 4000000 in
set_option maxRecDepth 100000 in
theorem c_X0_clerkNamed (l : Launch) (D : va_G) (cA ad : Nat → Nat) (hin : gInj ad shB.length) (w : GW) (x1 : Int64) (q : Int32) (hf : F_X0_clerkNamed w x1 = some q) : gMet l yX0_clerkNamed cX0_clerkNamed 4 (some .int) 1 120 D cA ad shB [.ref 0, .long x1] w (some (.int q)) w := by
  refine g_entry (by decide) hin (Nat.le_of_ble_eq_true rfl) ?_
  intro p e s m args below meth c C
  unfold F_X0_clerkNamed at hf
  show gW p l e (gRm 1 120) s m args below meth c D cA ad shB 4 0 0 (gQ below D cA ad shB (some (.int q)) w args s) 0 [(0, .ref 0), (1, .long x1)] [] w
  refine g_iconst C (gdec dt_X0_clerkNamed 0 rfl) ic_0 ?_
  refine g_istore_n C (gdec dt_X0_clerkNamed 1 rfl) (i := 3) rfl (by decide) (lo2 := [(3, .int (0 : Int32)), (0, .ref 0), (1, .long x1)]) rfl ?_
  refine g_sub [1, 2, 0] (lo2 := [(0, .ref 0), (1, .long x1), (3, .int (0 : Int32))]) rfl ?_
  exact L_X0_clerkNamed_2 C FU x1 (0 : Int32) hf
set_option maxHeartbeats 4000000 in
set_option maxRecDepth 100000 in
theorem c_X10_looksBy (l : Launch) (D : va_G) (cA ad : Nat → Nat) (hin : gInj ad shE.length) (w : GW) (x0 : Int32) (x1 : Int32) (q : Int32) (hf : F_X10_looksBy x0 x1 = some q) : gMet l yX10_looksBy cX10_looksBy 2 (some .int) 1 120 D cA ad shE [.int x0, .int x1] w (some (.int q)) w := by
  refine g_entry (by decide) hin (Nat.le_of_ble_eq_true rfl) ?_
  intro p e s m args below meth c C
  unfold F_X10_looksBy at hf
  show gW p l e (gRm 1 120) s m args below meth c D cA ad shE 2 0 0 (gQ below D cA ad shE (some (.int q)) w args s) 0 [(0, .int x0), (1, .int x1)] [] w
  refine g_iload_n C (gdec dt_X10_looksBy 0 rfl) (i := 0) rfl rfl ?_
  refine g_iload_n C (gdec dt_X10_looksBy 1 rfl) (i := 1) rfl rfl ?_
  refine g_iadd C (gdec dt_X10_looksBy 2 rfl) ?_
  refine g_bipush C (gdec dt_X10_looksBy 3 rfl) bc_99 ?_
  refine g_icmp_ge C (tgt := 14) (gdec dt_X10_looksBy 4 rfl) (by decide) (fun hc1 => ?_) (fun hc1 => ?_)
  · have hf := (if_pos hc1).symm.trans hf
    refine g_bipush C (gdec dt_X10_looksBy 9 rfl) bc_99 ?_
    cases hf
    exact g_iret C rfl (gdec dt_X10_looksBy 10 rfl)
  · have hf := (if_neg hc1).symm.trans hf
    refine g_iload_n C (gdec dt_X10_looksBy 5 rfl) (i := 0) rfl rfl ?_
    refine g_iload_n C (gdec dt_X10_looksBy 6 rfl) (i := 1) rfl rfl ?_
    refine g_iadd C (gdec dt_X10_looksBy 7 rfl) ?_
    refine g_goto C (tgt := 16) (gdec dt_X10_looksBy 8 rfl) (by decide) ?_
    cases hf
    exact g_iret C rfl (gdec dt_X10_looksBy 10 rfl)
set_option maxHeartbeats 4000000 in
set_option maxRecDepth 100000 in
theorem c_X0_looksOf (l : Launch) (D : va_G) (cA ad : Nat → Nat) (hin : gInj ad shB.length) (w : GW) (x1 : Int32) (q : Int32) (hf : F_X0_looksOf w x1 = some q) : gMet l yX0_looksOf cX0_looksOf 2 (some .int) 2 141 D cA ad shB [.ref 0, .int x1] w (some (.int q)) w := by
  refine g_entry (by decide) hin (Nat.le_of_ble_eq_true rfl) ?_
  intro p e s m args below meth c C
  unfold F_X0_looksOf at hf
  show gW p l e (gRm 2 141) s m args below meth c D cA ad shB 2 0 0 (gQ below D cA ad shB (some (.int q)) w args s) 0 [(0, .ref 0), (1, .int x1)] [] w
  refine g_aload_n C (gdec dt_X0_looksOf 0 rfl) (i := 0) rfl rfl ?_
  refine g_iload_n C (gdec dt_X0_looksOf 1 rfl) (i := 1) rfl rfl ?_
  obtain ⟨q1, hq1, hf⟩ := Option.bind_eq_some_iff.mp hf
  refine g_invV [.int x1] [] C (c_X0_hasClerk l D cA _ (gCi C) w x1 q1 hq1) kT_X0_hasClerk kl_X0_84 kim_X0_hasClerk kse_X0_hasClerk rfl rfl (i := 0) rfl rfl ⟨by decide, by decide⟩ gk0 (Nat.le_of_ble_eq_true rfl) (gdec dt_X0_looksOf 2 rfl) rfl (st2 := [.int q1]) rfl ?_
  refine g_if_eq C (tgt := 26) (gdec dt_X0_looksOf 3 rfl) (by decide) (fun hc2 => ?_) (fun hc2 => ?_)
  · have hf := (if_pos hc2).symm.trans hf
    refine g_iconst C (gdec dt_X0_looksOf 14 rfl) ic_0 ?_
    cases hf
    exact g_iret C rfl (gdec dt_X0_looksOf 15 rfl)
  · have hf := (if_neg hc2).symm.trans hf
    refine g_aload_n C (gdec dt_X0_looksOf 4 rfl) (i := 0) rfl rfl ?_
    refine g_getr C (j := 7) kf_X0_31 rfl rfl (gdec dt_X0_looksOf 5 rfl) ?_
    refine g_iload_n C (gdec dt_X0_looksOf 6 rfl) (i := 1) rfl rfl ?_
    obtain ⟨hg3, hf⟩ := gif hf
    refine g_iald C (i := 7) rfl hg3 rfl (gdec dt_X0_looksOf 7 rfl) ?_
    refine g_aload_n C (gdec dt_X0_looksOf 8 rfl) (i := 0) rfl rfl ?_
    refine g_getr C (j := 8) kf_X0_34 rfl rfl (gdec dt_X0_looksOf 9 rfl) ?_
    refine g_iload_n C (gdec dt_X0_looksOf 10 rfl) (i := 1) rfl rfl ?_
    refine g_iald C (i := 8) rfl hg3 rfl (gdec dt_X0_looksOf 11 rfl) ?_
    obtain ⟨q4, hq4, hf⟩ := Option.bind_eq_some_iff.mp hf
    refine g_invSN e_nil [.int (w.1 7 x1.toNatClampNeg), .int (w.1 8 x1.toNatClampNeg)] [] C (c_X10_looksBy l D cA _ (gInj_sub em_e_nil_shB (gCi C)) (gsub w e_nil) (w.1 7 x1.toNatClampNeg) (w.1 8 x1.toNatClampNeg) q4 hq4) em_e_nil_shB (by decide) rfl kT_X10_looksBy kn_X0_87 kst_X10_looksBy rfl rfl ⟨by decide, by decide⟩ gk0 (Nat.le_of_ble_eq_true rfl) (gdec dt_X0_looksOf 12 rfl) rfl (st2 := [.int q4]) (w2 := w) rfl (gput_sub _ _) ?_
    refine g_goto C (tgt := 27) (gdec dt_X0_looksOf 13 rfl) (by decide) ?_
    cases hf
    exact g_iret C rfl (gdec dt_X0_looksOf 15 rfl)
set_option maxHeartbeats 4000000 in
set_option maxRecDepth 100000 in
theorem L_X0_rankBy_24 {p : Program} {l : Launch} {e : Env} {s : State} {m : MethodId} {args : Array Value} {below : List Frame} {meth : Method} {c : Code} {D : va_G} {cA ad : Nat → Nat} {w : GW} {q : Int32} (C : gC p c cX0_rankBy meth m s args 4 (some .int) RX0 D cA ad shB) {k4 : Int32 → Int32 → Int32 → Option Int32} (hk4 : ∀ (x1 : Int32) (x2 : Int32) (x3 : Int32), k4 x1 x2 x3 = some q → gW p l e (gRm 1 120) s m args below meth c D cA ad shB 4 0 0 (gQ below D cA ad shB (some (.int q)) w args s) 4 [(0, .ref 0), (1, .int x1), (2, .int x2), (3, .int x3)] [] w) (x1 : Int32) (x2 : Int32) (x3 : Int32) (hf : f_X0_rankBy_24 k4 w x1 x2 x3 = some q) : gW p l e (gRm 1 120) s m args below meth c D cA ad shB 4 0 0 (gQ below D cA ad shB (some (.int q)) w args s) 24 [(0, .ref 0), (1, .int x1), (2, .int x2), (3, .int x3)] [] w := by
  unfold f_X0_rankBy_24 at hf
  refine g_iinc C (gdec dt_X0_rankBy 16 rfl) (kk := 3) rfl (v := (x3 + (1 : Int32))) rfl (by decide) (lo2 := [(3, .int (x3 + (1 : Int32))), (0, .ref 0), (1, .int x1), (2, .int x2)]) rfl ?_
  refine g_goto C (tgt := 4) (gdec dt_X0_rankBy 17 rfl) (by decide) ?_
  refine g_sub [1, 2, 3, 0] (lo2 := [(0, .ref 0), (1, .int x1), (2, .int x2), (3, .int (x3 + (1 : Int32)))]) rfl ?_
  exact hk4 x1 x2 (x3 + (1 : Int32)) hf
set_option maxHeartbeats 4000000 in
set_option maxRecDepth 100000 in
theorem Lb_X0_rankBy_4 {p : Program} {l : Launch} {e : Env} {s : State} {m : MethodId} {args : Array Value} {below : List Frame} {meth : Method} {c : Code} {D : va_G} {cA ad : Nat → Nat} {w : GW} {q : Int32} (C : gC p c cX0_rankBy meth m s args 4 (some .int) RX0 D cA ad shB) {k4 : Int32 → Int32 → Int32 → Option Int32} (hk4 : ∀ (x1 : Int32) (x2 : Int32) (x3 : Int32), k4 x1 x2 x3 = some q → gW p l e (gRm 1 120) s m args below meth c D cA ad shB 4 0 0 (gQ below D cA ad shB (some (.int q)) w args s) 4 [(0, .ref 0), (1, .int x1), (2, .int x2), (3, .int x3)] [] w) (x1 : Int32) (x2 : Int32) (x3 : Int32) (hf : b_X0_rankBy_4 k4 w x1 x2 x3 = some q) : gW p l e (gRm 1 120) s m args below meth c D cA ad shB 4 0 0 (gQ below D cA ad shB (some (.int q)) w args s) 4 [(0, .ref 0), (1, .int x1), (2, .int x2), (3, .int x3)] [] w := by
  unfold b_X0_rankBy_4 at hf
  refine g_iload_n C (gdec dt_X0_rankBy 4 rfl) (i := 3) rfl rfl ?_
  refine g_aload_n C (gdec dt_X0_rankBy 5 rfl) (i := 0) rfl rfl ?_
  refine g_geti C kf_X0_65 rfl rfl (gdec dt_X0_rankBy 6 rfl) ?_
  refine g_icmp_ge C (tgt := 30) (gdec dt_X0_rankBy 7 rfl) (by decide) (fun hc1 => ?_) (fun hc1 => ?_)
  · have hf := (if_pos hc1).symm.trans hf
    refine g_iload_n C (gdec dt_X0_rankBy 18 rfl) (i := 2) rfl rfl ?_
    cases hf
    exact g_iret C rfl (gdec dt_X0_rankBy 19 rfl)
  · have hf := (if_neg hc1).symm.trans hf
    refine g_aload_n C (gdec dt_X0_rankBy 8 rfl) (i := 0) rfl rfl ?_
    refine g_getr C (j := 2) kf_X0_15 rfl rfl (gdec dt_X0_rankBy 9 rfl) ?_
    refine g_iload_n C (gdec dt_X0_rankBy 10 rfl) (i := 3) rfl rfl ?_
    obtain ⟨hg2, hf⟩ := gif hf
    refine g_iald C (i := 2) rfl hg2 rfl (gdec dt_X0_rankBy 11 rfl) ?_
    refine g_iload_n C (gdec dt_X0_rankBy 12 rfl) (i := 1) rfl rfl ?_
    refine g_icmp_gt C (tgt := 24) (gdec dt_X0_rankBy 13 rfl) (by decide) (fun hc3 => ?_) (fun hc3 => ?_)
    · have hf := (if_pos hc3).symm.trans hf
      refine g_sub [0, 1, 2, 3] (lo2 := [(0, .ref 0), (1, .int x1), (2, .int x2), (3, .int x3)]) rfl ?_
      exact L_X0_rankBy_24 C hk4 x1 x2 x3 hf
    · have hf := (if_neg hc3).symm.trans hf
      refine g_iload_n C (gdec dt_X0_rankBy 14 rfl) (i := 3) rfl rfl ?_
      refine g_istore_n C (gdec dt_X0_rankBy 15 rfl) (i := 2) rfl (by decide) (lo2 := [(2, .int x3), (0, .ref 0), (1, .int x1), (3, .int x3)]) rfl ?_
      refine g_sub [1, 2, 0, 3] (lo2 := [(0, .ref 0), (1, .int x1), (2, .int x3), (3, .int x3)]) rfl ?_
      exact L_X0_rankBy_24 C hk4 x1 x3 x3 hf
theorem L_X0_rankBy_4 {p : Program} {l : Launch} {e : Env} {s : State} {m : MethodId} {args : Array Value} {below : List Frame} {meth : Method} {c : Code} {D : va_G} {cA ad : Nat → Nat} {w : GW} {q : Int32} (C : gC p c cX0_rankBy meth m s args 4 (some .int) RX0 D cA ad shB) : ∀ (n : Nat) (x1 : Int32) (x2 : Int32) (x3 : Int32), f_X0_rankBy_4 w n x1 x2 x3 = some q → gW p l e (gRm 1 120) s m args below meth c D cA ad shB 4 0 0 (gQ below D cA ad shB (some (.int q)) w args s) 4 [(0, .ref 0), (1, .int x1), (2, .int x2), (3, .int x3)] [] w := by
  intro n
  induction n with
  | zero => intro _ _ _ hf; cases hf
  | succ n ih => intro x1 x2 x3 hf; exact Lb_X0_rankBy_4 C ih x1 x2 x3 hf
set_option maxHeartbeats 4000000 in
set_option maxRecDepth 100000 in
theorem c_X0_rankBy (l : Launch) (D : va_G) (cA ad : Nat → Nat) (hin : gInj ad shB.length) (w : GW) (x1 : Int32) (q : Int32) (hf : F_X0_rankBy w x1 = some q) : gMet l yX0_rankBy cX0_rankBy 4 (some .int) 1 120 D cA ad shB [.ref 0, .int x1] w (some (.int q)) w := by
  refine g_entry (by decide) hin (Nat.le_of_ble_eq_true rfl) ?_
  intro p e s m args below meth c C
  unfold F_X0_rankBy at hf
  show gW p l e (gRm 1 120) s m args below meth c D cA ad shB 4 0 0 (gQ below D cA ad shB (some (.int q)) w args s) 0 [(0, .ref 0), (1, .int x1)] [] w
  refine g_iconst C (gdec dt_X0_rankBy 0 rfl) ic_m1 ?_
  refine g_istore_n C (gdec dt_X0_rankBy 1 rfl) (i := 2) rfl (by decide) (lo2 := [(2, .int (-1 : Int32)), (0, .ref 0), (1, .int x1)]) rfl ?_
  refine g_iconst C (gdec dt_X0_rankBy 2 rfl) ic_0 ?_
  refine g_istore_n C (gdec dt_X0_rankBy 3 rfl) (i := 3) rfl (by decide) (lo2 := [(3, .int (0 : Int32)), (2, .int (-1 : Int32)), (0, .ref 0), (1, .int x1)]) rfl ?_
  refine g_sub [2, 3, 1, 0] (lo2 := [(0, .ref 0), (1, .int x1), (2, .int (-1 : Int32)), (3, .int (0 : Int32))]) rfl ?_
  exact L_X0_rankBy_4 C FU x1 (-1 : Int32) (0 : Int32) hf
set_option maxHeartbeats 4000000 in
set_option maxRecDepth 100000 in
theorem c_X0_payBy (l : Launch) (D : va_G) (cA ad : Nat → Nat) (hin : gInj ad shB.length) (w : GW) (x1 : Int32) (q : Int32) (hf : F_X0_payBy w x1 = some q) : gMet l yX0_payBy cX0_payBy 3 (some .int) 2 143 D cA ad shB [.ref 0, .int x1] w (some (.int q)) w := by
  refine g_entry (by decide) hin (Nat.le_of_ble_eq_true rfl) ?_
  intro p e s m args below meth c C
  unfold F_X0_payBy at hf
  show gW p l e (gRm 2 143) s m args below meth c D cA ad shB 3 0 0 (gQ below D cA ad shB (some (.int q)) w args s) 0 [(0, .ref 0), (1, .int x1)] [] w
  refine g_aload_n C (gdec dt_X0_payBy 0 rfl) (i := 0) rfl rfl ?_
  refine g_iload_n C (gdec dt_X0_payBy 1 rfl) (i := 1) rfl rfl ?_
  obtain ⟨q1, hq1, hf⟩ := Option.bind_eq_some_iff.mp hf
  refine g_invV [.int x1] [] C (c_X0_rankBy l D cA _ (gCi C) w x1 q1 hq1) kT_X0_rankBy kl_X0_91 kim_X0_rankBy kse_X0_rankBy rfl rfl (i := 0) rfl rfl ⟨by decide, by decide⟩ gk0 (Nat.le_of_ble_eq_true rfl) (gdec dt_X0_payBy 2 rfl) rfl (st2 := [.int q1]) rfl ?_
  refine g_istore_n C (gdec dt_X0_payBy 3 rfl) (i := 2) rfl (by decide) (lo2 := [(2, .int q1), (0, .ref 0), (1, .int x1)]) rfl ?_
  refine g_aload_n C (gdec dt_X0_payBy 4 rfl) (i := 0) rfl rfl ?_
  refine g_iload_n C (gdec dt_X0_payBy 5 rfl) (i := 2) rfl rfl ?_
  obtain ⟨q2, hq2, hf⟩ := Option.bind_eq_some_iff.mp hf
  refine g_invV [.int q1] [] C (c_X0_hasRank l D cA _ (gCi C) w q1 q2 hq2) kT_X0_hasRank kl_X0_80 kim_X0_hasRank kse_X0_hasRank rfl rfl (i := 0) rfl rfl ⟨by decide, by decide⟩ gk0 (Nat.le_of_ble_eq_true rfl) (gdec dt_X0_payBy 6 rfl) rfl (st2 := [.int q2]) rfl ?_
  refine g_if_eq C (tgt := 23) (gdec dt_X0_payBy 7 rfl) (by decide) (fun hc3 => ?_) (fun hc3 => ?_)
  · have hf := (if_pos hc3).symm.trans hf
    refine g_iconst C (gdec dt_X0_payBy 13 rfl) ic_0 ?_
    cases hf
    exact g_iret C rfl (gdec dt_X0_payBy 14 rfl)
  · have hf := (if_neg hc3).symm.trans hf
    refine g_aload_n C (gdec dt_X0_payBy 8 rfl) (i := 0) rfl rfl ?_
    refine g_getr C (j := 3) kf_X0_18 rfl rfl (gdec dt_X0_payBy 9 rfl) ?_
    refine g_iload_n C (gdec dt_X0_payBy 10 rfl) (i := 2) rfl rfl ?_
    obtain ⟨hg4, hf⟩ := gif hf
    refine g_iald C (i := 3) rfl hg4 rfl (gdec dt_X0_payBy 11 rfl) ?_
    refine g_goto C (tgt := 24) (gdec dt_X0_payBy 12 rfl) (by decide) ?_
    cases hf
    exact g_iret C rfl (gdec dt_X0_payBy 14 rfl)
set_option maxHeartbeats 4000000 in
set_option maxRecDepth 100000 in
theorem L_X0_clerksOfRank_31 {p : Program} {l : Launch} {e : Env} {s : State} {m : MethodId} {args : Array Value} {below : List Frame} {meth : Method} {c : Code} {D : va_G} {cA ad : Nat → Nat} {w : GW} {q : Int32} (C : gC p c cX0_clerksOfRank meth m s args 4 (some .int) RX0 D cA ad shB) {k4 : Int32 → Int32 → Int32 → Option Int32} (hk4 : ∀ (x1 : Int32) (x2 : Int32) (x3 : Int32), k4 x1 x2 x3 = some q → gW p l e (gRm 3 162) s m args below meth c D cA ad shB 4 0 0 (gQ below D cA ad shB (some (.int q)) w args s) 4 [(0, .ref 0), (1, .int x1), (2, .int x2), (3, .int x3)] [] w) (x1 : Int32) (x2 : Int32) (x3 : Int32) (hf : f_X0_clerksOfRank_31 k4 w x1 x2 x3 = some q) : gW p l e (gRm 3 162) s m args below meth c D cA ad shB 4 0 0 (gQ below D cA ad shB (some (.int q)) w args s) 31 [(0, .ref 0), (1, .int x1), (2, .int x2), (3, .int x3)] [] w := by
  unfold f_X0_clerksOfRank_31 at hf
  refine g_iinc C (gdec dt_X0_clerksOfRank 21 rfl) (kk := 3) rfl (v := (x3 + (1 : Int32))) rfl (by decide) (lo2 := [(3, .int (x3 + (1 : Int32))), (0, .ref 0), (1, .int x1), (2, .int x2)]) rfl ?_
  refine g_goto C (tgt := 4) (gdec dt_X0_clerksOfRank 22 rfl) (by decide) ?_
  refine g_sub [1, 2, 3, 0] (lo2 := [(0, .ref 0), (1, .int x1), (2, .int x2), (3, .int (x3 + (1 : Int32)))]) rfl ?_
  exact hk4 x1 x2 (x3 + (1 : Int32)) hf
set_option maxHeartbeats 4000000 in
set_option maxRecDepth 100000 in
theorem Lb_X0_clerksOfRank_4 {p : Program} {l : Launch} {e : Env} {s : State} {m : MethodId} {args : Array Value} {below : List Frame} {meth : Method} {c : Code} {D : va_G} {cA ad : Nat → Nat} {w : GW} {q : Int32} (C : gC p c cX0_clerksOfRank meth m s args 4 (some .int) RX0 D cA ad shB) {k4 : Int32 → Int32 → Int32 → Option Int32} (hk4 : ∀ (x1 : Int32) (x2 : Int32) (x3 : Int32), k4 x1 x2 x3 = some q → gW p l e (gRm 3 162) s m args below meth c D cA ad shB 4 0 0 (gQ below D cA ad shB (some (.int q)) w args s) 4 [(0, .ref 0), (1, .int x1), (2, .int x2), (3, .int x3)] [] w) (x1 : Int32) (x2 : Int32) (x3 : Int32) (hf : b_X0_clerksOfRank_4 k4 w x1 x2 x3 = some q) : gW p l e (gRm 3 162) s m args below meth c D cA ad shB 4 0 0 (gQ below D cA ad shB (some (.int q)) w args s) 4 [(0, .ref 0), (1, .int x1), (2, .int x2), (3, .int x3)] [] w := by
  unfold b_X0_clerksOfRank_4 at hf
  refine g_iload_n C (gdec dt_X0_clerksOfRank 4 rfl) (i := 3) rfl rfl ?_
  refine g_aload_n C (gdec dt_X0_clerksOfRank 5 rfl) (i := 0) rfl rfl ?_
  refine g_geti C kf_X0_68 rfl rfl (gdec dt_X0_clerksOfRank 6 rfl) ?_
  refine g_icmp_ge C (tgt := 37) (gdec dt_X0_clerksOfRank 7 rfl) (by decide) (fun hc1 => ?_) (fun hc1 => ?_)
  · have hf := (if_pos hc1).symm.trans hf
    refine g_iload_n C (gdec dt_X0_clerksOfRank 23 rfl) (i := 2) rfl rfl ?_
    cases hf
    exact g_iret C rfl (gdec dt_X0_clerksOfRank 24 rfl)
  · have hf := (if_neg hc1).symm.trans hf
    refine g_aload_n C (gdec dt_X0_clerksOfRank 8 rfl) (i := 0) rfl rfl ?_
    refine g_aload_n C (gdec dt_X0_clerksOfRank 9 rfl) (i := 0) rfl rfl ?_
    refine g_iload_n C (gdec dt_X0_clerksOfRank 10 rfl) (i := 3) rfl rfl ?_
    obtain ⟨q2, hq2, hf⟩ := Option.bind_eq_some_iff.mp hf
    refine g_invV [.int x3] [.ref 0] C (c_X0_looksOf l D cA _ (gCi C) w x3 q2 hq2) kT_X0_looksOf kl_X0_95 kim_X0_looksOf kse_X0_looksOf rfl rfl (i := 0) rfl rfl ⟨by decide, by decide⟩ gk0 (Nat.le_of_ble_eq_true rfl) (gdec dt_X0_clerksOfRank 11 rfl) rfl (st2 := [.int q2, .ref 0]) rfl ?_
    obtain ⟨q3, hq3, hf⟩ := Option.bind_eq_some_iff.mp hf
    refine g_invV [.int q2] [] C (c_X0_rankBy l D cA _ (gCi C) w q2 q3 hq3) kT_X0_rankBy kl_X0_91 kim_X0_rankBy kse_X0_rankBy rfl rfl (i := 0) rfl rfl ⟨by decide, by decide⟩ gk0 (Nat.le_of_ble_eq_true rfl) (gdec dt_X0_clerksOfRank 12 rfl) rfl (st2 := [.int q3]) rfl ?_
    refine g_iload_n C (gdec dt_X0_clerksOfRank 13 rfl) (i := 1) rfl rfl ?_
    refine g_icmp_ne C (tgt := 31) (gdec dt_X0_clerksOfRank 14 rfl) (by decide) (fun hc4 => ?_) (fun hc4 => ?_)
    · have hf := (if_neg hc4).symm.trans hf
      refine g_sub [0, 1, 2, 3] (lo2 := [(0, .ref 0), (1, .int x1), (2, .int x2), (3, .int x3)]) rfl ?_
      exact L_X0_clerksOfRank_31 C hk4 x1 x2 x3 hf
    · have hf := (if_pos hc4).symm.trans hf
      refine g_iload_n C (gdec dt_X0_clerksOfRank 15 rfl) (i := 2) rfl rfl ?_
      refine g_iconst C (gdec dt_X0_clerksOfRank 16 rfl) ic_1 ?_
      refine g_iload_n C (gdec dt_X0_clerksOfRank 17 rfl) (i := 3) rfl rfl ?_
      refine g_ishl C (gdec dt_X0_clerksOfRank 18 rfl) ?_
      refine g_ior C (gdec dt_X0_clerksOfRank 19 rfl) ?_
      refine g_istore_n C (gdec dt_X0_clerksOfRank 20 rfl) (i := 2) rfl (by decide) (lo2 := [(2, .int (x2 ||| ((1 : Int32) <<< (x3 &&& 31)))), (0, .ref 0), (1, .int x1), (3, .int x3)]) rfl ?_
      refine g_sub [1, 2, 0, 3] (lo2 := [(0, .ref 0), (1, .int x1), (2, .int (x2 ||| ((1 : Int32) <<< (x3 &&& 31)))), (3, .int x3)]) rfl ?_
      exact L_X0_clerksOfRank_31 C hk4 x1 (x2 ||| ((1 : Int32) <<< (x3 &&& 31))) x3 hf
theorem L_X0_clerksOfRank_4 {p : Program} {l : Launch} {e : Env} {s : State} {m : MethodId} {args : Array Value} {below : List Frame} {meth : Method} {c : Code} {D : va_G} {cA ad : Nat → Nat} {w : GW} {q : Int32} (C : gC p c cX0_clerksOfRank meth m s args 4 (some .int) RX0 D cA ad shB) : ∀ (n : Nat) (x1 : Int32) (x2 : Int32) (x3 : Int32), f_X0_clerksOfRank_4 w n x1 x2 x3 = some q → gW p l e (gRm 3 162) s m args below meth c D cA ad shB 4 0 0 (gQ below D cA ad shB (some (.int q)) w args s) 4 [(0, .ref 0), (1, .int x1), (2, .int x2), (3, .int x3)] [] w := by
  intro n
  induction n with
  | zero => intro _ _ _ hf; cases hf
  | succ n ih => intro x1 x2 x3 hf; exact Lb_X0_clerksOfRank_4 C ih x1 x2 x3 hf
set_option maxHeartbeats 4000000 in
set_option maxRecDepth 100000 in
theorem c_X0_clerksOfRank (l : Launch) (D : va_G) (cA ad : Nat → Nat) (hin : gInj ad shB.length) (w : GW) (x1 : Int32) (q : Int32) (hf : F_X0_clerksOfRank w x1 = some q) : gMet l yX0_clerksOfRank cX0_clerksOfRank 4 (some .int) 3 162 D cA ad shB [.ref 0, .int x1] w (some (.int q)) w := by
  refine g_entry (by decide) hin (Nat.le_of_ble_eq_true rfl) ?_
  intro p e s m args below meth c C
  unfold F_X0_clerksOfRank at hf
  show gW p l e (gRm 3 162) s m args below meth c D cA ad shB 4 0 0 (gQ below D cA ad shB (some (.int q)) w args s) 0 [(0, .ref 0), (1, .int x1)] [] w
  refine g_iconst C (gdec dt_X0_clerksOfRank 0 rfl) ic_0 ?_
  refine g_istore_n C (gdec dt_X0_clerksOfRank 1 rfl) (i := 2) rfl (by decide) (lo2 := [(2, .int (0 : Int32)), (0, .ref 0), (1, .int x1)]) rfl ?_
  refine g_iconst C (gdec dt_X0_clerksOfRank 2 rfl) ic_0 ?_
  refine g_istore_n C (gdec dt_X0_clerksOfRank 3 rfl) (i := 3) rfl (by decide) (lo2 := [(3, .int (0 : Int32)), (2, .int (0 : Int32)), (0, .ref 0), (1, .int x1)]) rfl ?_
  refine g_sub [2, 3, 1, 0] (lo2 := [(0, .ref 0), (1, .int x1), (2, .int (0 : Int32)), (3, .int (0 : Int32))]) rfl ?_
  exact L_X0_clerksOfRank_4 C FU x1 (0 : Int32) (0 : Int32) hf
set_option maxHeartbeats 4000000 in
set_option maxRecDepth 100000 in
theorem Lb_X0_totalOf_4 {p : Program} {l : Launch} {e : Env} {s : State} {m : MethodId} {args : Array Value} {below : List Frame} {meth : Method} {c : Code} {D : va_G} {cA ad : Nat → Nat} {w : GW} {q : Int32} (C : gC p c cX0_totalOf meth m s args 4 (some .int) RX0 D cA ad shB) {a1 : Nat} (ha1 : shB[a1]? = some (0, [6])) {k4 : Int32 → Int32 → Option Int32} (hk4 : ∀ (x2 : Int32) (x3 : Int32), k4 x2 x3 = some q → gW p l e (gRm 1 120) s m args below meth c D cA ad shB 4 0 0 (gQ below D cA ad shB (some (.int q)) w args s) 4 [(0, .ref 0), (1, .ref a1), (2, .int x2), (3, .int x3)] [] w) (x2 : Int32) (x3 : Int32) (hf : b_X0_totalOf_4 k4 a1 w x2 x3 = some q) : gW p l e (gRm 1 120) s m args below meth c D cA ad shB 4 0 0 (gQ below D cA ad shB (some (.int q)) w args s) 4 [(0, .ref 0), (1, .ref a1), (2, .int x2), (3, .int x3)] [] w := by
  unfold b_X0_totalOf_4 at hf
  refine g_iload_n C (gdec dt_X0_totalOf 4 rfl) (i := 3) rfl rfl ?_
  refine g_aload_n C (gdec dt_X0_totalOf 5 rfl) (i := 0) rfl rfl ?_
  refine g_geti C kf_X0_68 rfl rfl (gdec dt_X0_totalOf 6 rfl) ?_
  refine g_icmp_ge C (tgt := 30) (gdec dt_X0_totalOf 7 rfl) (by decide) (fun hc1 => ?_) (fun hc1 => ?_)
  · have hf := (if_pos hc1).symm.trans hf
    refine g_iload_n C (gdec dt_X0_totalOf 20 rfl) (i := 2) rfl rfl ?_
    cases hf
    exact g_iret C rfl (gdec dt_X0_totalOf 21 rfl)
  · have hf := (if_neg hc1).symm.trans hf
    refine g_iload_n C (gdec dt_X0_totalOf 8 rfl) (i := 3) rfl rfl ?_
    refine g_aload_n C (gdec dt_X0_totalOf 9 rfl) (i := 1) rfl rfl ?_
    refine g_alen C ha1 (by decide) (v := (6 : Int32)) rfl (gdec dt_X0_totalOf 10 rfl) ?_
    refine g_icmp_ge C (tgt := 30) (gdec dt_X0_totalOf 11 rfl) (by decide) (fun hc2 => ?_) (fun hc2 => ?_)
    · have hf := (if_pos hc2).symm.trans hf
      refine g_iload_n C (gdec dt_X0_totalOf 20 rfl) (i := 2) rfl rfl ?_
      cases hf
      exact g_iret C rfl (gdec dt_X0_totalOf 21 rfl)
    · have hf := (if_neg hc2).symm.trans hf
      refine g_iload_n C (gdec dt_X0_totalOf 12 rfl) (i := 2) rfl rfl ?_
      refine g_aload_n C (gdec dt_X0_totalOf 13 rfl) (i := 1) rfl rfl ?_
      refine g_iload_n C (gdec dt_X0_totalOf 14 rfl) (i := 3) rfl rfl ?_
      obtain ⟨hg3, hf⟩ := gif hf
      refine g_iald C ha1 hg3 rfl (gdec dt_X0_totalOf 15 rfl) ?_
      refine g_iadd C (gdec dt_X0_totalOf 16 rfl) ?_
      refine g_istore_n C (gdec dt_X0_totalOf 17 rfl) (i := 2) rfl (by decide) (lo2 := [(2, .int (x2 + (w.1 a1 x3.toNatClampNeg))), (0, .ref 0), (1, .ref a1), (3, .int x3)]) rfl ?_
      refine g_iinc C (gdec dt_X0_totalOf 18 rfl) (kk := 3) rfl (v := (x3 + (1 : Int32))) rfl (by decide) (lo2 := [(3, .int (x3 + (1 : Int32))), (2, .int (x2 + (w.1 a1 x3.toNatClampNeg))), (0, .ref 0), (1, .ref a1)]) rfl ?_
      refine g_goto C (tgt := 4) (gdec dt_X0_totalOf 19 rfl) (by decide) ?_
      refine g_sub [2, 3, 1, 0] (lo2 := [(0, .ref 0), (1, .ref a1), (2, .int (x2 + (w.1 a1 x3.toNatClampNeg))), (3, .int (x3 + (1 : Int32)))]) rfl ?_
      exact hk4 (x2 + (w.1 a1 x3.toNatClampNeg)) (x3 + (1 : Int32)) hf
theorem L_X0_totalOf_4 {p : Program} {l : Launch} {e : Env} {s : State} {m : MethodId} {args : Array Value} {below : List Frame} {meth : Method} {c : Code} {D : va_G} {cA ad : Nat → Nat} {w : GW} {q : Int32} (C : gC p c cX0_totalOf meth m s args 4 (some .int) RX0 D cA ad shB) {a1 : Nat} (ha1 : shB[a1]? = some (0, [6])) : ∀ (n : Nat) (x2 : Int32) (x3 : Int32), f_X0_totalOf_4 a1 w n x2 x3 = some q → gW p l e (gRm 1 120) s m args below meth c D cA ad shB 4 0 0 (gQ below D cA ad shB (some (.int q)) w args s) 4 [(0, .ref 0), (1, .ref a1), (2, .int x2), (3, .int x3)] [] w := by
  intro n
  induction n with
  | zero => intro _ _ hf; cases hf
  | succ n ih => intro x2 x3 hf; exact Lb_X0_totalOf_4 C ha1 ih x2 x3 hf
set_option maxHeartbeats 4000000 in
set_option maxRecDepth 100000 in
theorem c_X0_totalOf (l : Launch) (D : va_G) (cA ad : Nat → Nat) (hin : gInj ad shB.length) (a1 : Nat) (ha1 : shB[a1]? = some (0, [6])) (w : GW) (q : Int32) (hf : F_X0_totalOf a1 w = some q) : gMet l yX0_totalOf cX0_totalOf 4 (some .int) 1 120 D cA ad shB [.ref 0, .ref a1] w (some (.int q)) w := by
  refine g_entry (by decide) hin (Nat.le_of_ble_eq_true rfl) ?_
  intro p e s m args below meth c C
  unfold F_X0_totalOf at hf
  show gW p l e (gRm 1 120) s m args below meth c D cA ad shB 4 0 0 (gQ below D cA ad shB (some (.int q)) w args s) 0 [(0, .ref 0), (1, .ref a1)] [] w
  refine g_iconst C (gdec dt_X0_totalOf 0 rfl) ic_0 ?_
  refine g_istore_n C (gdec dt_X0_totalOf 1 rfl) (i := 2) rfl (by decide) (lo2 := [(2, .int (0 : Int32)), (0, .ref 0), (1, .ref a1)]) rfl ?_
  refine g_iconst C (gdec dt_X0_totalOf 2 rfl) ic_0 ?_
  refine g_istore_n C (gdec dt_X0_totalOf 3 rfl) (i := 3) rfl (by decide) (lo2 := [(3, .int (0 : Int32)), (2, .int (0 : Int32)), (0, .ref 0), (1, .ref a1)]) rfl ?_
  refine g_sub [2, 3, 1, 0] (lo2 := [(0, .ref 0), (1, .ref a1), (2, .int (0 : Int32)), (3, .int (0 : Int32))]) rfl ?_
  exact L_X0_totalOf_4 C ha1 FU (0 : Int32) (0 : Int32) hf
set_option maxHeartbeats 4000000 in
set_option maxRecDepth 100000 in
theorem c_X0_greyOfAll (l : Launch) (D : va_G) (cA ad : Nat → Nat) (hin : gInj ad shB.length) (w : GW) (q : Int32) (hf : F_X0_greyOfAll w = some q) : gMet l yX0_greyOfAll cX0_greyOfAll 1 (some .int) 2 143 D cA ad shB [.ref 0] w (some (.int q)) w := by
  refine g_entry (by decide) hin (Nat.le_of_ble_eq_true rfl) ?_
  intro p e s m args below meth c C
  unfold F_X0_greyOfAll at hf
  show gW p l e (gRm 2 143) s m args below meth c D cA ad shB 1 0 0 (gQ below D cA ad shB (some (.int q)) w args s) 0 [(0, .ref 0)] [] w
  refine g_aload_n C (gdec dt_X0_greyOfAll 0 rfl) (i := 0) rfl rfl ?_
  refine g_aload_n C (gdec dt_X0_greyOfAll 1 rfl) (i := 0) rfl rfl ?_
  refine g_getr C (j := 7) kf_X0_31 rfl rfl (gdec dt_X0_greyOfAll 2 rfl) ?_
  obtain ⟨q1, hq1, hf⟩ := Option.bind_eq_some_iff.mp hf
  refine g_invV [.ref 7] [] C (c_X0_totalOf l D cA _ (gCi C) 7 rfl w  q1 hq1) kT_X0_totalOf kl_X0_98 kim_X0_totalOf kse_X0_totalOf rfl rfl (i := 0) rfl rfl ⟨by decide, by decide⟩ gk0 (Nat.le_of_ble_eq_true rfl) (gdec dt_X0_greyOfAll 3 rfl) rfl (st2 := [.int q1]) rfl ?_
  cases hf
  exact g_iret C rfl (gdec dt_X0_greyOfAll 4 rfl)
set_option maxHeartbeats 4000000 in
set_option maxRecDepth 100000 in
theorem c_X0_paidOfAll (l : Launch) (D : va_G) (cA ad : Nat → Nat) (hin : gInj ad shB.length) (w : GW) (q : Int32) (hf : F_X0_paidOfAll w = some q) : gMet l yX0_paidOfAll cX0_paidOfAll 1 (some .int) 2 143 D cA ad shB [.ref 0] w (some (.int q)) w := by
  refine g_entry (by decide) hin (Nat.le_of_ble_eq_true rfl) ?_
  intro p e s m args below meth c C
  unfold F_X0_paidOfAll at hf
  show gW p l e (gRm 2 143) s m args below meth c D cA ad shB 1 0 0 (gQ below D cA ad shB (some (.int q)) w args s) 0 [(0, .ref 0)] [] w
  refine g_aload_n C (gdec dt_X0_paidOfAll 0 rfl) (i := 0) rfl rfl ?_
  refine g_aload_n C (gdec dt_X0_paidOfAll 1 rfl) (i := 0) rfl rfl ?_
  refine g_getr C (j := 9) kf_X0_37 rfl rfl (gdec dt_X0_paidOfAll 2 rfl) ?_
  obtain ⟨q1, hq1, hf⟩ := Option.bind_eq_some_iff.mp hf
  refine g_invV [.ref 9] [] C (c_X0_totalOf l D cA _ (gCi C) 9 rfl w  q1 hq1) kT_X0_totalOf kl_X0_98 kim_X0_totalOf kse_X0_totalOf rfl rfl (i := 0) rfl rfl ⟨by decide, by decide⟩ gk0 (Nat.le_of_ble_eq_true rfl) (gdec dt_X0_paidOfAll 3 rfl) rfl (st2 := [.int q1]) rfl ?_
  cases hf
  exact g_iret C rfl (gdec dt_X0_paidOfAll 4 rfl)
set_option maxHeartbeats 4000000 in
set_option maxRecDepth 100000 in
theorem c_X0_unpaidOfAll (l : Launch) (D : va_G) (cA ad : Nat → Nat) (hin : gInj ad shB.length) (w : GW) (q : Int32) (hf : F_X0_unpaidOfAll w = some q) : gMet l yX0_unpaidOfAll cX0_unpaidOfAll 1 (some .int) 2 143 D cA ad shB [.ref 0] w (some (.int q)) w := by
  refine g_entry (by decide) hin (Nat.le_of_ble_eq_true rfl) ?_
  intro p e s m args below meth c C
  unfold F_X0_unpaidOfAll at hf
  show gW p l e (gRm 2 143) s m args below meth c D cA ad shB 1 0 0 (gQ below D cA ad shB (some (.int q)) w args s) 0 [(0, .ref 0)] [] w
  refine g_aload_n C (gdec dt_X0_unpaidOfAll 0 rfl) (i := 0) rfl rfl ?_
  refine g_aload_n C (gdec dt_X0_unpaidOfAll 1 rfl) (i := 0) rfl rfl ?_
  refine g_getr C (j := 10) kf_X0_40 rfl rfl (gdec dt_X0_unpaidOfAll 2 rfl) ?_
  obtain ⟨q1, hq1, hf⟩ := Option.bind_eq_some_iff.mp hf
  refine g_invV [.ref 10] [] C (c_X0_totalOf l D cA _ (gCi C) 10 rfl w  q1 hq1) kT_X0_totalOf kl_X0_98 kim_X0_totalOf kse_X0_totalOf rfl rfl (i := 0) rfl rfl ⟨by decide, by decide⟩ gk0 (Nat.le_of_ble_eq_true rfl) (gdec dt_X0_unpaidOfAll 3 rfl) rfl (st2 := [.int q1]) rfl ?_
  cases hf
  exact g_iret C rfl (gdec dt_X0_unpaidOfAll 4 rfl)
set_option maxHeartbeats 4000000 in
set_option maxRecDepth 100000 in
theorem c_X10_greyGrown (l : Launch) (D : va_G) (cA ad : Nat → Nat) (hin : gInj ad shE.length) (w : GW) (x0 : Int32) (x1 : Int32) (x2 : Int32) (q : Int32) (hf : F_X10_greyGrown x0 x1 x2 = some q) : gMet l yX10_greyGrown cX10_greyGrown 4 (some .int) 1 120 D cA ad shE [.int x0, .int x1, .int x2] w (some (.int q)) w := by
  refine g_entry (by decide) hin (Nat.le_of_ble_eq_true rfl) ?_
  intro p e s m args below meth c C
  unfold F_X10_greyGrown at hf
  show gW p l e (gRm 1 120) s m args below meth c D cA ad shE 4 0 0 (gQ below D cA ad shE (some (.int q)) w args s) 0 [(0, .int x0), (1, .int x1), (2, .int x2)] [] w
  refine g_iload_n C (gdec dt_X10_greyGrown 0 rfl) (i := 0) rfl rfl ?_
  refine g_iload_n C (gdec dt_X10_greyGrown 1 rfl) (i := 1) rfl rfl ?_
  refine g_iload_n C (gdec dt_X10_greyGrown 2 rfl) (i := 2) rfl rfl ?_
  refine g_imul C (gdec dt_X10_greyGrown 3 rfl) ?_
  refine g_iadd C (gdec dt_X10_greyGrown 4 rfl) ?_
  refine g_istore_n C (gdec dt_X10_greyGrown 5 rfl) (i := 3) rfl (by decide) (lo2 := [(3, .int (x0 + (x1 * x2))), (0, .int x0), (1, .int x1), (2, .int x2)]) rfl ?_
  refine g_iload_n C (gdec dt_X10_greyGrown 6 rfl) (i := 3) rfl rfl ?_
  refine g_bipush C (gdec dt_X10_greyGrown 7 rfl) bc_99 ?_
  refine g_icmp_ge C (tgt := 16) (gdec dt_X10_greyGrown 8 rfl) (by decide) (fun hc1 => ?_) (fun hc1 => ?_)
  · have hf := (if_pos hc1).symm.trans hf
    refine g_bipush C (gdec dt_X10_greyGrown 11 rfl) bc_99 ?_
    cases hf
    exact g_iret C rfl (gdec dt_X10_greyGrown 12 rfl)
  · have hf := (if_neg hc1).symm.trans hf
    refine g_iload_n C (gdec dt_X10_greyGrown 9 rfl) (i := 3) rfl rfl ?_
    refine g_goto C (tgt := 18) (gdec dt_X10_greyGrown 10 rfl) (by decide) ?_
    cases hf
    exact g_iret C rfl (gdec dt_X10_greyGrown 12 rfl)
set_option maxHeartbeats 4000000 in
set_option maxRecDepth 100000 in
theorem c_X0_greyStaying (l : Launch) (D : va_G) (cA ad : Nat → Nat) (hin : gInj ad shB.length) (w : GW) (x1 : Int32) (x2 : Int32) (q : Int32) (hf : F_X0_greyStaying w x1 x2 = some q) : gMet l yX0_greyStaying cX0_greyStaying 3 (some .int) 2 143 D cA ad shB [.ref 0, .int x1, .int x2] w (some (.int q)) w := by
  refine g_entry (by decide) hin (Nat.le_of_ble_eq_true rfl) ?_
  intro p e s m args below meth c C
  unfold F_X0_greyStaying at hf
  show gW p l e (gRm 2 143) s m args below meth c D cA ad shB 3 0 0 (gQ below D cA ad shB (some (.int q)) w args s) 0 [(0, .ref 0), (1, .int x1), (2, .int x2)] [] w
  refine g_aload_n C (gdec dt_X0_greyStaying 0 rfl) (i := 0) rfl rfl ?_
  refine g_iload_n C (gdec dt_X0_greyStaying 1 rfl) (i := 1) rfl rfl ?_
  obtain ⟨q1, hq1, hf⟩ := Option.bind_eq_some_iff.mp hf
  refine g_invV [.int x1] [] C (c_X0_hasClerk l D cA _ (gCi C) w x1 q1 hq1) kT_X0_hasClerk kl_X0_84 kim_X0_hasClerk kse_X0_hasClerk rfl rfl (i := 0) rfl rfl ⟨by decide, by decide⟩ gk0 (Nat.le_of_ble_eq_true rfl) (gdec dt_X0_greyStaying 2 rfl) rfl (st2 := [.int q1]) rfl ?_
  refine g_if_eq C (tgt := 21) (gdec dt_X0_greyStaying 3 rfl) (by decide) (fun hc2 => ?_) (fun hc2 => ?_)
  · have hf := (if_pos hc2).symm.trans hf
    refine g_iconst C (gdec dt_X0_greyStaying 11 rfl) ic_0 ?_
    cases hf
    exact g_iret C rfl (gdec dt_X0_greyStaying 12 rfl)
  · have hf := (if_neg hc2).symm.trans hf
    refine g_aload_n C (gdec dt_X0_greyStaying 4 rfl) (i := 0) rfl rfl ?_
    refine g_aload_n C (gdec dt_X0_greyStaying 5 rfl) (i := 0) rfl rfl ?_
    refine g_getr C (j := 5) kf_X0_25 rfl rfl (gdec dt_X0_greyStaying 6 rfl) ?_
    refine g_iload_n C (gdec dt_X0_greyStaying 7 rfl) (i := 1) rfl rfl ?_
    obtain ⟨hg3, hf⟩ := gif hf
    refine g_iald C (i := 5) rfl hg3 rfl (gdec dt_X0_greyStaying 8 rfl) ?_
    obtain ⟨q4, hq4, hf⟩ := Option.bind_eq_some_iff.mp hf
    refine g_invV [.int (w.1 5 x1.toNatClampNeg)] [] C (c_X0_hasCorner l D cA _ (gCi C) w (w.1 5 x1.toNatClampNeg) q4 hq4) kT_X0_hasCorner kl_X0_102 kim_X0_hasCorner kse_X0_hasCorner rfl rfl (i := 0) rfl rfl ⟨by decide, by decide⟩ gk0 (Nat.le_of_ble_eq_true rfl) (gdec dt_X0_greyStaying 9 rfl) rfl (st2 := [.int q4]) rfl ?_
    refine g_if_ne C (tgt := 23) (gdec dt_X0_greyStaying 10 rfl) (by decide) (fun hc5 => ?_) (fun hc5 => ?_)
    · have hf := (if_neg hc5).symm.trans hf
      refine g_aload_n C (gdec dt_X0_greyStaying 13 rfl) (i := 0) rfl rfl ?_
      refine g_getr C (j := 7) kf_X0_31 rfl rfl (gdec dt_X0_greyStaying 14 rfl) ?_
      refine g_iload_n C (gdec dt_X0_greyStaying 15 rfl) (i := 1) rfl rfl ?_
      refine g_iald C (i := 7) rfl hg3 rfl (gdec dt_X0_greyStaying 16 rfl) ?_
      refine g_aload_n C (gdec dt_X0_greyStaying 17 rfl) (i := 0) rfl rfl ?_
      refine g_getr C (j := 1) kf_X0_9 rfl rfl (gdec dt_X0_greyStaying 18 rfl) ?_
      refine g_aload_n C (gdec dt_X0_greyStaying 19 rfl) (i := 0) rfl rfl ?_
      refine g_getr C (j := 5) kf_X0_25 rfl rfl (gdec dt_X0_greyStaying 20 rfl) ?_
      refine g_iload_n C (gdec dt_X0_greyStaying 21 rfl) (i := 1) rfl rfl ?_
      refine g_iald C (i := 5) rfl hg3 rfl (gdec dt_X0_greyStaying 22 rfl) ?_
      obtain ⟨hg6, hf⟩ := gif hf
      refine g_iald C (i := 1) rfl hg6 rfl (gdec dt_X0_greyStaying 23 rfl) ?_
      refine g_iload_n C (gdec dt_X0_greyStaying 24 rfl) (i := 2) rfl rfl ?_
      obtain ⟨q7, hq7, hf⟩ := Option.bind_eq_some_iff.mp hf
      refine g_invSN e_nil [.int (w.1 7 x1.toNatClampNeg), .int (w.1 1 (w.1 5 x1.toNatClampNeg).toNatClampNeg), .int x2] [] C (c_X10_greyGrown l D cA _ (gInj_sub em_e_nil_shB (gCi C)) (gsub w e_nil) (w.1 7 x1.toNatClampNeg) (w.1 1 (w.1 5 x1.toNatClampNeg).toNatClampNeg) x2 q7 hq7) em_e_nil_shB (by decide) rfl kT_X10_greyGrown kn_X0_105 kst_X10_greyGrown rfl rfl ⟨by decide, by decide⟩ gk0 (Nat.le_of_ble_eq_true rfl) (gdec dt_X0_greyStaying 25 rfl) rfl (st2 := [.int q7]) (w2 := w) rfl (gput_sub _ _) ?_
      cases hf
      exact g_iret C rfl (gdec dt_X0_greyStaying 26 rfl)
    · have hf := (if_pos hc5).symm.trans hf
      refine g_iconst C (gdec dt_X0_greyStaying 11 rfl) ic_0 ?_
      cases hf
      exact g_iret C rfl (gdec dt_X0_greyStaying 12 rfl)
set_option maxHeartbeats 4000000 in
set_option maxRecDepth 100000 in
theorem L_X0_greySeated_45 {p : Program} {l : Launch} {e : Env} {s : State} {m : MethodId} {args : Array Value} {below : List Frame} {meth : Method} {c : Code} {D : va_G} {cA ad : Nat → Nat} {w : GW} {q : Int32} (C : gC p c cX0_greySeated meth m s args 5 (some .int) RX0 D cA ad shB) (x2 : Int32) (x3 : Int32) (s0 : Int32) (hf : f_X0_greySeated_45 w x2 x3 s0 = some q) : gW p l e (gRm 2 143) s m args below meth c D cA ad shB 5 0 0 (gQ below D cA ad shB (some (.int q)) w args s) 45 [(0, .ref 0), (2, .int x2), (3, .int x3)] [.int s0] w := by
  unfold f_X0_greySeated_45 at hf
  refine g_istore C (gdec dt_X0_greySeated 27 rfl) (by decide) (lo2 := [(4, .int s0), (0, .ref 0), (2, .int x2), (3, .int x3)]) rfl ?_
  refine g_iload C (gdec dt_X0_greySeated 28 rfl) rfl ?_
  refine g_aload_n C (gdec dt_X0_greySeated 29 rfl) (i := 0) rfl rfl ?_
  refine g_getr C (j := 1) kf_X0_9 rfl rfl (gdec dt_X0_greySeated 30 rfl) ?_
  refine g_iload_n C (gdec dt_X0_greySeated 31 rfl) (i := 2) rfl rfl ?_
  obtain ⟨hg7, hf⟩ := gif hf
  refine g_iald C (i := 1) rfl hg7 rfl (gdec dt_X0_greySeated 32 rfl) ?_
  refine g_iload_n C (gdec dt_X0_greySeated 33 rfl) (i := 3) rfl rfl ?_
  obtain ⟨q8, hq8, hf⟩ := Option.bind_eq_some_iff.mp hf
  refine g_invSN e_nil [.int s0, .int (w.1 1 x2.toNatClampNeg), .int x3] [] C (c_X10_greyGrown l D cA _ (gInj_sub em_e_nil_shB (gCi C)) (gsub w e_nil) s0 (w.1 1 x2.toNatClampNeg) x3 q8 hq8) em_e_nil_shB (by decide) rfl kT_X10_greyGrown kn_X0_105 kst_X10_greyGrown rfl rfl ⟨by decide, by decide⟩ gk0 (Nat.le_of_ble_eq_true rfl) (gdec dt_X0_greySeated 34 rfl) rfl (st2 := [.int q8]) (w2 := w) rfl (gput_sub _ _) ?_
  cases hf
  exact g_iret C rfl (gdec dt_X0_greySeated 35 rfl)
set_option maxHeartbeats 4000000 in
set_option maxRecDepth 100000 in
theorem c_X0_greySeated (l : Launch) (D : va_G) (cA ad : Nat → Nat) (hin : gInj ad shB.length) (w : GW) (x1 : Int32) (x2 : Int32) (x3 : Int32) (q : Int32) (hf : F_X0_greySeated w x1 x2 x3 = some q) : gMet l yX0_greySeated cX0_greySeated 5 (some .int) 2 143 D cA ad shB [.ref 0, .int x1, .int x2, .int x3] w (some (.int q)) w := by
  refine g_entry (by decide) hin (Nat.le_of_ble_eq_true rfl) ?_
  intro p e s m args below meth c C
  unfold F_X0_greySeated at hf
  show gW p l e (gRm 2 143) s m args below meth c D cA ad shB 5 0 0 (gQ below D cA ad shB (some (.int q)) w args s) 0 [(0, .ref 0), (1, .int x1), (2, .int x2), (3, .int x3)] [] w
  refine g_aload_n C (gdec dt_X0_greySeated 0 rfl) (i := 0) rfl rfl ?_
  refine g_iload_n C (gdec dt_X0_greySeated 1 rfl) (i := 1) rfl rfl ?_
  obtain ⟨q1, hq1, hf⟩ := Option.bind_eq_some_iff.mp hf
  refine g_invV [.int x1] [] C (c_X0_hasClerk l D cA _ (gCi C) w x1 q1 hq1) kT_X0_hasClerk kl_X0_84 kim_X0_hasClerk kse_X0_hasClerk rfl rfl (i := 0) rfl rfl ⟨by decide, by decide⟩ gk0 (Nat.le_of_ble_eq_true rfl) (gdec dt_X0_greySeated 2 rfl) rfl (st2 := [.int q1]) rfl ?_
  refine g_if_eq C (tgt := 16) (gdec dt_X0_greySeated 3 rfl) (by decide) (fun hc2 => ?_) (fun hc2 => ?_)
  · have hf := (if_pos hc2).symm.trans hf
    refine g_iconst C (gdec dt_X0_greySeated 8 rfl) ic_0 ?_
    cases hf
    exact g_iret C rfl (gdec dt_X0_greySeated 9 rfl)
  · have hf := (if_neg hc2).symm.trans hf
    refine g_aload_n C (gdec dt_X0_greySeated 4 rfl) (i := 0) rfl rfl ?_
    refine g_iload_n C (gdec dt_X0_greySeated 5 rfl) (i := 2) rfl rfl ?_
    obtain ⟨q3, hq3, hf⟩ := Option.bind_eq_some_iff.mp hf
    refine g_invV [.int x2] [] C (c_X0_hasCorner l D cA _ (gCi C) w x2 q3 hq3) kT_X0_hasCorner kl_X0_102 kim_X0_hasCorner kse_X0_hasCorner rfl rfl (i := 0) rfl rfl ⟨by decide, by decide⟩ gk0 (Nat.le_of_ble_eq_true rfl) (gdec dt_X0_greySeated 6 rfl) rfl (st2 := [.int q3]) rfl ?_
    refine g_if_ne C (tgt := 18) (gdec dt_X0_greySeated 7 rfl) (by decide) (fun hc4 => ?_) (fun hc4 => ?_)
    · have hf := (if_neg hc4).symm.trans hf
      refine g_aload_n C (gdec dt_X0_greySeated 10 rfl) (i := 0) rfl rfl ?_
      refine g_getr C (j := 5) kf_X0_25 rfl rfl (gdec dt_X0_greySeated 11 rfl) ?_
      refine g_iload_n C (gdec dt_X0_greySeated 12 rfl) (i := 1) rfl rfl ?_
      obtain ⟨hg5, hf⟩ := gif hf
      refine g_iald C (i := 5) rfl hg5 rfl (gdec dt_X0_greySeated 13 rfl) ?_
      refine g_iload_n C (gdec dt_X0_greySeated 14 rfl) (i := 2) rfl rfl ?_
      refine g_icmp_ne C (tgt := 37) (gdec dt_X0_greySeated 15 rfl) (by decide) (fun hc6 => ?_) (fun hc6 => ?_)
      · have hf := (if_neg hc6).symm.trans hf
        refine g_aload_n C (gdec dt_X0_greySeated 21 rfl) (i := 0) rfl rfl ?_
        refine g_getr C (j := 7) kf_X0_31 rfl rfl (gdec dt_X0_greySeated 22 rfl) ?_
        refine g_iload_n C (gdec dt_X0_greySeated 23 rfl) (i := 1) rfl rfl ?_
        refine g_iald C (i := 7) rfl hg5 rfl (gdec dt_X0_greySeated 24 rfl) ?_
        refine g_iconst C (gdec dt_X0_greySeated 25 rfl) ic_2 ?_
        refine g_idiv C (gdec dt_X0_greySeated 26 rfl) (by decide) ?_
        refine g_sub [0, 2, 3] (lo2 := [(0, .ref 0), (2, .int x2), (3, .int x3)]) rfl ?_
        exact L_X0_greySeated_45 C x2 x3 ((w.1 7 x1.toNatClampNeg) / (2 : Int32)) hf
      · have hf := (if_pos hc6).symm.trans hf
        refine g_aload_n C (gdec dt_X0_greySeated 16 rfl) (i := 0) rfl rfl ?_
        refine g_getr C (j := 7) kf_X0_31 rfl rfl (gdec dt_X0_greySeated 17 rfl) ?_
        refine g_iload_n C (gdec dt_X0_greySeated 18 rfl) (i := 1) rfl rfl ?_
        refine g_iald C (i := 7) rfl hg5 rfl (gdec dt_X0_greySeated 19 rfl) ?_
        refine g_goto C (tgt := 45) (gdec dt_X0_greySeated 20 rfl) (by decide) ?_
        refine g_sub [0, 2, 3] (lo2 := [(0, .ref 0), (2, .int x2), (3, .int x3)]) rfl ?_
        exact L_X0_greySeated_45 C x2 x3 (w.1 7 x1.toNatClampNeg) hf
    · have hf := (if_pos hc4).symm.trans hf
      refine g_iconst C (gdec dt_X0_greySeated 8 rfl) ic_0 ?_
      cases hf
      exact g_iret C rfl (gdec dt_X0_greySeated 9 rfl)
set_option maxHeartbeats 4000000 in
set_option maxRecDepth 100000 in
theorem L_X0_passYear_67 {p : Program} {l : Launch} {e : Env} {s : State} {m : MethodId} {args : Array Value} {below : List Frame} {meth : Method} {c : Code} {D : va_G} {cA ad : Nat → Nat} {q : (Int32 × GW)} (C : gC p c cX0_passYear meth m s args 4 (some .int) RX0 D cA ad shB) {k4 : Int32 → Int32 → GW → Option (Int32 × GW)} (hk4 : ∀ (x1 : Int32) (x2 : Int32) (w : GW), k4 x1 x2 w = some q → gW p l e (gRm 3 165) s m args below meth c D cA ad shB 4 0 0 (gQ below D cA ad shB (some (.int q.1)) q.2 args s) 4 [(0, .ref 0), (1, .int x1), (2, .int x2)] [] w) (x1 : Int32) (x2 : Int32) (w : GW) (hf : f_X0_passYear_67 k4 x1 x2 w = some q) : gW p l e (gRm 3 165) s m args below meth c D cA ad shB 4 0 0 (gQ below D cA ad shB (some (.int q.1)) q.2 args s) 67 [(0, .ref 0), (1, .int x1), (2, .int x2)] [] w := by
  unfold f_X0_passYear_67 at hf
  refine g_aload_n C (gdec dt_X0_passYear 45 rfl) (i := 0) rfl rfl ?_
  refine g_getr C (j := 6) kf_X0_28 rfl rfl (gdec dt_X0_passYear 46 rfl) ?_
  refine g_iload_n C (gdec dt_X0_passYear 47 rfl) (i := 2) rfl rfl ?_
  refine g_sipush C (gdec dt_X0_passYear 48 rfl) sc_999 ?_
  refine g_aload_n C (gdec dt_X0_passYear 49 rfl) (i := 0) rfl rfl ?_
  refine g_getr C (j := 6) kf_X0_28 rfl rfl (gdec dt_X0_passYear 50 rfl) ?_
  refine g_iload_n C (gdec dt_X0_passYear 51 rfl) (i := 2) rfl rfl ?_
  obtain ⟨hg7, hf⟩ := gif hf
  refine g_iald C (i := 6) rfl hg7 rfl (gdec dt_X0_passYear 52 rfl) ?_
  refine g_iconst C (gdec dt_X0_passYear 53 rfl) ic_1 ?_
  refine g_iadd C (gdec dt_X0_passYear 54 rfl) ?_
  refine g_mmin C (gdec dt_X0_passYear 55 rfl) kl_X0_116 kst_min ki_Math kc_Mmin (Nat.le_of_ble_eq_true rfl) ⟨by decide, by decide⟩ gk0 ?_
  refine g_iast C (i := 6) rfl hg7 rfl (gdec dt_X0_passYear 56 rfl) ?_
  refine g_aload_n C (gdec dt_X0_passYear 57 rfl) (i := 0) rfl rfl ?_
  refine g_getr C (j := 7) kf_X0_31 rfl rfl (gdec dt_X0_passYear 58 rfl) ?_
  refine g_iload_n C (gdec dt_X0_passYear 59 rfl) (i := 2) rfl rfl ?_
  refine g_aload_n C (gdec dt_X0_passYear 60 rfl) (i := 0) rfl rfl ?_
  refine g_iload_n C (gdec dt_X0_passYear 61 rfl) (i := 2) rfl rfl ?_
  refine g_iconst C (gdec dt_X0_passYear 62 rfl) ic_1 ?_
  obtain ⟨q8, hq8, hf⟩ := Option.bind_eq_some_iff.mp hf
  refine g_invV [.int x2, .int (1 : Int32)] [.int x2, .ref 7] C (c_X0_greyStaying l D cA _ (gCi C) (gI w 6 x2.toNatClampNeg (imin (999 : Int32) ((w.1 6 x2.toNatClampNeg) + (1 : Int32)))) x2 (1 : Int32) q8 hq8) kT_X0_greyStaying kl_X0_121 kim_X0_greyStaying kse_X0_greyStaying rfl rfl (i := 0) rfl rfl ⟨by decide, by decide⟩ gk0 (Nat.le_of_ble_eq_true rfl) (gdec dt_X0_passYear 63 rfl) rfl (st2 := [.int q8, .int x2, .ref 7]) rfl ?_
  refine g_iast C (i := 7) rfl hg7 rfl (gdec dt_X0_passYear 64 rfl) ?_
  refine g_iinc C (gdec dt_X0_passYear 65 rfl) (kk := 2) rfl (v := (x2 + (1 : Int32))) rfl (by decide) (lo2 := [(2, .int (x2 + (1 : Int32))), (0, .ref 0), (1, .int x1)]) rfl ?_
  refine g_goto C (tgt := 4) (gdec dt_X0_passYear 66 rfl) (by decide) ?_
  refine g_sub [1, 2, 0] (lo2 := [(0, .ref 0), (1, .int x1), (2, .int (x2 + (1 : Int32)))]) rfl ?_
  exact hk4 x1 (x2 + (1 : Int32)) (gI (gI w 6 x2.toNatClampNeg (imin (999 : Int32) ((w.1 6 x2.toNatClampNeg) + (1 : Int32)))) 7 x2.toNatClampNeg q8) hf
set_option maxHeartbeats 4000000 in
set_option maxRecDepth 100000 in
theorem Lb_X0_passYear_4 {p : Program} {l : Launch} {e : Env} {s : State} {m : MethodId} {args : Array Value} {below : List Frame} {meth : Method} {c : Code} {D : va_G} {cA ad : Nat → Nat} {q : (Int32 × GW)} (C : gC p c cX0_passYear meth m s args 4 (some .int) RX0 D cA ad shB) {k4 : Int32 → Int32 → GW → Option (Int32 × GW)} (hk4 : ∀ (x1 : Int32) (x2 : Int32) (w : GW), k4 x1 x2 w = some q → gW p l e (gRm 3 165) s m args below meth c D cA ad shB 4 0 0 (gQ below D cA ad shB (some (.int q.1)) q.2 args s) 4 [(0, .ref 0), (1, .int x1), (2, .int x2)] [] w) (x1 : Int32) (x2 : Int32) (w : GW) (hf : b_X0_passYear_4 k4 x1 x2 w = some q) : gW p l e (gRm 3 165) s m args below meth c D cA ad shB 4 0 0 (gQ below D cA ad shB (some (.int q.1)) q.2 args s) 4 [(0, .ref 0), (1, .int x1), (2, .int x2)] [] w := by
  unfold b_X0_passYear_4 at hf
  refine g_iload_n C (gdec dt_X0_passYear 4 rfl) (i := 2) rfl rfl ?_
  refine g_aload_n C (gdec dt_X0_passYear 5 rfl) (i := 0) rfl rfl ?_
  refine g_geti C kf_X0_68 rfl rfl (gdec dt_X0_passYear 6 rfl) ?_
  refine g_icmp_ge C (tgt := 105) (gdec dt_X0_passYear 7 rfl) (by decide) (fun hc1 => ?_) (fun hc1 => ?_)
  · have hf := (if_pos hc1).symm.trans hf
    refine g_aload_n C (gdec dt_X0_passYear 67 rfl) (i := 0) rfl rfl ?_
    refine g_dup C (gdec dt_X0_passYear 68 rfl) rfl ?_
    refine g_geti C kf_X0_59 rfl rfl (gdec dt_X0_passYear 69 rfl) ?_
    refine g_iconst C (gdec dt_X0_passYear 70 rfl) ic_1 ?_
    refine g_iadd C (gdec dt_X0_passYear 71 rfl) ?_
    refine g_puti C kf_X0_59 rfl rfl (gdec dt_X0_passYear 72 rfl) ?_
    refine g_iload_n C (gdec dt_X0_passYear 73 rfl) (i := 1) rfl rfl ?_
    cases hf
    exact g_iret C rfl (gdec dt_X0_passYear 74 rfl)
  · have hf := (if_neg hc1).symm.trans hf
    refine g_aload_n C (gdec dt_X0_passYear 8 rfl) (i := 0) rfl rfl ?_
    refine g_aload_n C (gdec dt_X0_passYear 9 rfl) (i := 0) rfl rfl ?_
    refine g_iload_n C (gdec dt_X0_passYear 10 rfl) (i := 2) rfl rfl ?_
    obtain ⟨q2, hq2, hf⟩ := Option.bind_eq_some_iff.mp hf
    refine g_invV [.int x2] [.ref 0] C (c_X0_looksOf l D cA _ (gCi C) w x2 q2 hq2) kT_X0_looksOf kl_X0_95 kim_X0_looksOf kse_X0_looksOf rfl rfl (i := 0) rfl rfl ⟨by decide, by decide⟩ gk0 (Nat.le_of_ble_eq_true rfl) (gdec dt_X0_passYear 11 rfl) rfl (st2 := [.int q2, .ref 0]) rfl ?_
    obtain ⟨q3, hq3, hf⟩ := Option.bind_eq_some_iff.mp hf
    refine g_invV [.int q2] [] C (c_X0_payBy l D cA _ (gCi C) w q2 q3 hq3) kT_X0_payBy kl_X0_113 kim_X0_payBy kse_X0_payBy rfl rfl (i := 0) rfl rfl ⟨by decide, by decide⟩ gk0 (Nat.le_of_ble_eq_true rfl) (gdec dt_X0_passYear 12 rfl) rfl (st2 := [.int q3]) rfl ?_
    refine g_istore_n C (gdec dt_X0_passYear 13 rfl) (i := 3) rfl (by decide) (lo2 := [(3, .int q3), (0, .ref 0), (1, .int x1), (2, .int x2)]) rfl ?_
    refine g_iload_n C (gdec dt_X0_passYear 14 rfl) (i := 3) rfl rfl ?_
    refine g_aload_n C (gdec dt_X0_passYear 15 rfl) (i := 0) rfl rfl ?_
    refine g_geti C kf_X0_56 rfl rfl (gdec dt_X0_passYear 16 rfl) ?_
    refine g_icmp_gt C (tgt := 57) (gdec dt_X0_passYear 17 rfl) (by decide) (fun hc4 => ?_) (fun hc4 => ?_)
    · have hf := (if_pos hc4).symm.trans hf
      refine g_aload_n C (gdec dt_X0_passYear 37 rfl) (i := 0) rfl rfl ?_
      refine g_getr C (j := 10) kf_X0_40 rfl rfl (gdec dt_X0_passYear 38 rfl) ?_
      refine g_iload_n C (gdec dt_X0_passYear 39 rfl) (i := 2) rfl rfl ?_
      refine g_dup2 C (gdec dt_X0_passYear 40 rfl) rfl rfl ?_
      obtain ⟨hg5, hf⟩ := gif hf
      refine g_iald C (i := 10) rfl hg5 rfl (gdec dt_X0_passYear 41 rfl) ?_
      refine g_iconst C (gdec dt_X0_passYear 42 rfl) ic_1 ?_
      refine g_iadd C (gdec dt_X0_passYear 43 rfl) ?_
      refine g_iast C (i := 10) rfl hg5 rfl (gdec dt_X0_passYear 44 rfl) ?_
      refine g_sub [1, 2, 3] (lo2 := [(0, .ref 0), (1, .int x1), (2, .int x2)]) rfl ?_
      exact L_X0_passYear_67 C hk4 x1 x2 (gI w 10 x2.toNatClampNeg ((w.1 10 x2.toNatClampNeg) + (1 : Int32))) hf
    · have hf := (if_neg hc4).symm.trans hf
      refine g_aload_n C (gdec dt_X0_passYear 18 rfl) (i := 0) rfl rfl ?_
      refine g_dup C (gdec dt_X0_passYear 19 rfl) rfl ?_
      refine g_geti C kf_X0_56 rfl rfl (gdec dt_X0_passYear 20 rfl) ?_
      refine g_iload_n C (gdec dt_X0_passYear 21 rfl) (i := 3) rfl rfl ?_
      refine g_isub C (gdec dt_X0_passYear 22 rfl) ?_
      refine g_puti C kf_X0_56 rfl rfl (gdec dt_X0_passYear 23 rfl) ?_
      refine g_aload_n C (gdec dt_X0_passYear 24 rfl) (i := 0) rfl rfl ?_
      refine g_getr C (j := 9) kf_X0_37 rfl rfl (gdec dt_X0_passYear 25 rfl) ?_
      refine g_iload_n C (gdec dt_X0_passYear 26 rfl) (i := 2) rfl rfl ?_
      refine g_dup2 C (gdec dt_X0_passYear 27 rfl) rfl rfl ?_
      obtain ⟨hg6, hf⟩ := gif hf
      refine g_iald C (i := 9) rfl hg6 rfl (gdec dt_X0_passYear 28 rfl) ?_
      refine g_iload_n C (gdec dt_X0_passYear 29 rfl) (i := 3) rfl rfl ?_
      refine g_iadd C (gdec dt_X0_passYear 30 rfl) ?_
      refine g_iast C (i := 9) rfl hg6 rfl (gdec dt_X0_passYear 31 rfl) ?_
      refine g_iload_n C (gdec dt_X0_passYear 32 rfl) (i := 1) rfl rfl ?_
      refine g_iload_n C (gdec dt_X0_passYear 33 rfl) (i := 3) rfl rfl ?_
      refine g_iadd C (gdec dt_X0_passYear 34 rfl) ?_
      refine g_istore_n C (gdec dt_X0_passYear 35 rfl) (i := 1) rfl (by decide) (lo2 := [(1, .int (x1 + q3)), (3, .int q3), (0, .ref 0), (2, .int x2)]) rfl ?_
      refine g_goto C (tgt := 67) (gdec dt_X0_passYear 36 rfl) (by decide) ?_
      refine g_sub [2, 0, 3] (lo2 := [(0, .ref 0), (1, .int (x1 + q3)), (2, .int x2)]) rfl ?_
      exact L_X0_passYear_67 C hk4 (x1 + q3) x2 (gI (gI w 0 1 ((w.1 0 1) - q3)) 9 x2.toNatClampNeg ((w.1 9 x2.toNatClampNeg) + q3)) hf
theorem L_X0_passYear_4 {p : Program} {l : Launch} {e : Env} {s : State} {m : MethodId} {args : Array Value} {below : List Frame} {meth : Method} {c : Code} {D : va_G} {cA ad : Nat → Nat} {q : (Int32 × GW)} (C : gC p c cX0_passYear meth m s args 4 (some .int) RX0 D cA ad shB) : ∀ (n : Nat) (x1 : Int32) (x2 : Int32) (w : GW), f_X0_passYear_4 n x1 x2 w = some q → gW p l e (gRm 3 165) s m args below meth c D cA ad shB 4 0 0 (gQ below D cA ad shB (some (.int q.1)) q.2 args s) 4 [(0, .ref 0), (1, .int x1), (2, .int x2)] [] w := by
  intro n
  induction n with
  | zero => intro _ _ _ hf; cases hf
  | succ n ih => intro x1 x2 w hf; exact Lb_X0_passYear_4 C ih x1 x2 w hf
set_option maxHeartbeats 4000000 in
set_option maxRecDepth 100000 in
theorem c_X0_passYear (l : Launch) (D : va_G) (cA ad : Nat → Nat) (hin : gInj ad shB.length) (w : GW) (q : (Int32 × GW)) (hf : F_X0_passYear w = some q) : gMet l yX0_passYear cX0_passYear 4 (some .int) 3 165 D cA ad shB [.ref 0] w (some (.int q.1)) q.2 := by
  refine g_entry (by decide) hin (Nat.le_of_ble_eq_true rfl) ?_
  intro p e s m args below meth c C
  unfold F_X0_passYear at hf
  show gW p l e (gRm 3 165) s m args below meth c D cA ad shB 4 0 0 (gQ below D cA ad shB (some (.int q.1)) q.2 args s) 0 [(0, .ref 0)] [] w
  refine g_iconst C (gdec dt_X0_passYear 0 rfl) ic_0 ?_
  refine g_istore_n C (gdec dt_X0_passYear 1 rfl) (i := 1) rfl (by decide) (lo2 := [(1, .int (0 : Int32)), (0, .ref 0)]) rfl ?_
  refine g_iconst C (gdec dt_X0_passYear 2 rfl) ic_0 ?_
  refine g_istore_n C (gdec dt_X0_passYear 3 rfl) (i := 2) rfl (by decide) (lo2 := [(2, .int (0 : Int32)), (1, .int (0 : Int32)), (0, .ref 0)]) rfl ?_
  refine g_sub [2, 1, 0] (lo2 := [(0, .ref 0), (1, .int (0 : Int32)), (2, .int (0 : Int32))]) rfl ?_
  exact L_X0_passYear_4 C FU (0 : Int32) (0 : Int32) w hf
set_option maxHeartbeats 4000000 in
set_option maxRecDepth 100000 in
theorem Lb_X0_passYears_18 {p : Program} {l : Launch} {e : Env} {s : State} {m : MethodId} {args : Array Value} {below : List Frame} {meth : Method} {c : Code} {D : va_G} {cA ad : Nat → Nat} {q : (Int32 × GW)} (C : gC p c cX0_passYears meth m s args 4 (some .int) RX0 D cA ad shB) {k18 : Int32 → Int32 → Int32 → GW → Option (Int32 × GW)} (hk18 : ∀ (x1 : Int32) (x2 : Int32) (x3 : Int32) (w : GW), k18 x1 x2 x3 w = some q → gW p l e (gRm 4 188) s m args below meth c D cA ad shB 4 0 0 (gQ below D cA ad shB (some (.int q.1)) q.2 args s) 18 [(0, .ref 0), (1, .int x1), (2, .int x2), (3, .int x3)] [] w) (x1 : Int32) (x2 : Int32) (x3 : Int32) (w : GW) (hf : b_X0_passYears_18 k18 x1 x2 x3 w = some q) : gW p l e (gRm 4 188) s m args below meth c D cA ad shB 4 0 0 (gQ below D cA ad shB (some (.int q.1)) q.2 args s) 18 [(0, .ref 0), (1, .int x1), (2, .int x2), (3, .int x3)] [] w := by
  unfold b_X0_passYears_18 at hf
  refine g_iload_n C (gdec dt_X0_passYears 12 rfl) (i := 3) rfl rfl ?_
  refine g_iload_n C (gdec dt_X0_passYears 13 rfl) (i := 1) rfl rfl ?_
  refine g_icmp_ge C (tgt := 36) (gdec dt_X0_passYears 14 rfl) (by decide) (fun hc2 => ?_) (fun hc2 => ?_)
  · have hf := (if_pos hc2).symm.trans hf
    refine g_iload_n C (gdec dt_X0_passYears 22 rfl) (i := 2) rfl rfl ?_
    cases hf
    exact g_iret C rfl (gdec dt_X0_passYears 23 rfl)
  · have hf := (if_neg hc2).symm.trans hf
    refine g_iload_n C (gdec dt_X0_passYears 15 rfl) (i := 2) rfl rfl ?_
    refine g_aload_n C (gdec dt_X0_passYears 16 rfl) (i := 0) rfl rfl ?_
    obtain ⟨q3, hq3, hf⟩ := Option.bind_eq_some_iff.mp hf
    refine g_invV [] [.int x2] C (c_X0_passYear l D cA _ (gCi C) w  q3 hq3) kT_X0_passYear kl_X0_109 kim_X0_passYear kse_X0_passYear rfl rfl (i := 0) rfl rfl ⟨by decide, by decide⟩ gk0 (Nat.le_of_ble_eq_true rfl) (gdec dt_X0_passYears 17 rfl) rfl (st2 := [.int q3.1, .int x2]) rfl ?_
    refine g_iadd C (gdec dt_X0_passYears 18 rfl) ?_
    refine g_istore_n C (gdec dt_X0_passYears 19 rfl) (i := 2) rfl (by decide) (lo2 := [(2, .int (x2 + q3.1)), (0, .ref 0), (1, .int x1), (3, .int x3)]) rfl ?_
    refine g_iinc C (gdec dt_X0_passYears 20 rfl) (kk := 3) rfl (v := (x3 + (1 : Int32))) rfl (by decide) (lo2 := [(3, .int (x3 + (1 : Int32))), (2, .int (x2 + q3.1)), (0, .ref 0), (1, .int x1)]) rfl ?_
    refine g_goto C (tgt := 18) (gdec dt_X0_passYears 21 rfl) (by decide) ?_
    refine g_sub [2, 3, 1, 0] (lo2 := [(0, .ref 0), (1, .int x1), (2, .int (x2 + q3.1)), (3, .int (x3 + (1 : Int32)))]) rfl ?_
    exact hk18 x1 (x2 + q3.1) (x3 + (1 : Int32)) q3.2 hf
theorem L_X0_passYears_18 {p : Program} {l : Launch} {e : Env} {s : State} {m : MethodId} {args : Array Value} {below : List Frame} {meth : Method} {c : Code} {D : va_G} {cA ad : Nat → Nat} {q : (Int32 × GW)} (C : gC p c cX0_passYears meth m s args 4 (some .int) RX0 D cA ad shB) : ∀ (n : Nat) (x1 : Int32) (x2 : Int32) (x3 : Int32) (w : GW), f_X0_passYears_18 n x1 x2 x3 w = some q → gW p l e (gRm 4 188) s m args below meth c D cA ad shB 4 0 0 (gQ below D cA ad shB (some (.int q.1)) q.2 args s) 18 [(0, .ref 0), (1, .int x1), (2, .int x2), (3, .int x3)] [] w := by
  intro n
  induction n with
  | zero => intro _ _ _ _ hf; cases hf
  | succ n ih => intro x1 x2 x3 w hf; exact Lb_X0_passYears_18 C ih x1 x2 x3 w hf
set_option maxHeartbeats 4000000 in
set_option maxRecDepth 100000 in
theorem c_X0_passYears (l : Launch) (D : va_G) (cA ad : Nat → Nat) (hin : gInj ad shB.length) (w : GW) (x1 : Int32) (q : (Int32 × GW)) (hf : F_X0_passYears x1 w = some q) : gMet l yX0_passYears cX0_passYears 4 (some .int) 4 188 D cA ad shB [.ref 0, .int x1] w (some (.int q.1)) q.2 := by
  refine g_entry (by decide) hin (Nat.le_of_ble_eq_true rfl) ?_
  intro p e s m args below meth c C
  unfold F_X0_passYears at hf
  show gW p l e (gRm 4 188) s m args below meth c D cA ad shB 4 0 0 (gQ below D cA ad shB (some (.int q.1)) q.2 args s) 0 [(0, .ref 0), (1, .int x1)] [] w
  refine g_aload_n C (gdec dt_X0_passYears 0 rfl) (i := 0) rfl rfl ?_
  refine g_geti C kf_X0_59 rfl rfl (gdec dt_X0_passYears 1 rfl) ?_
  refine g_iload_n C (gdec dt_X0_passYears 2 rfl) (i := 1) rfl rfl ?_
  refine g_iadd C (gdec dt_X0_passYears 3 rfl) ?_
  refine g_sipush C (gdec dt_X0_passYears 4 rfl) sc_9999 ?_
  refine g_icmp_le C (tgt := 14) (gdec dt_X0_passYears 5 rfl) (by decide) (fun hc1 => ?_) (fun hc1 => ?_)
  · have hf := (if_pos hc1).symm.trans hf
    refine g_iconst C (gdec dt_X0_passYears 8 rfl) ic_0 ?_
    refine g_istore_n C (gdec dt_X0_passYears 9 rfl) (i := 2) rfl (by decide) (lo2 := [(2, .int (0 : Int32)), (0, .ref 0), (1, .int x1)]) rfl ?_
    refine g_iconst C (gdec dt_X0_passYears 10 rfl) ic_0 ?_
    refine g_istore_n C (gdec dt_X0_passYears 11 rfl) (i := 3) rfl (by decide) (lo2 := [(3, .int (0 : Int32)), (2, .int (0 : Int32)), (0, .ref 0), (1, .int x1)]) rfl ?_
    refine g_sub [2, 3, 1, 0] (lo2 := [(0, .ref 0), (1, .int x1), (2, .int (0 : Int32)), (3, .int (0 : Int32))]) rfl ?_
    exact L_X0_passYears_18 C FU x1 (0 : Int32) (0 : Int32) w hf
  · have hf := (if_neg hc1).symm.trans hf
    refine g_iconst C (gdec dt_X0_passYears 6 rfl) ic_m1 ?_
    cases hf
    exact g_iret C rfl (gdec dt_X0_passYears 7 rfl)
set_option maxHeartbeats 4000000 in
set_option maxRecDepth 100000 in
theorem c_X0_loseHalf (l : Launch) (D : va_G) (cA ad : Nat → Nat) (hin : gInj ad shB.length) (w : GW) (x1 : Int32) (q : GW) (hf : F_X0_loseHalf x1 w = some q) : gMet l yX0_loseHalf cX0_loseHalf 2 none 2 141 D cA ad shB [.ref 0, .int x1] w none q := by
  refine g_entry (by decide) hin (Nat.le_of_ble_eq_true rfl) ?_
  intro p e s m args below meth c C
  unfold F_X0_loseHalf at hf
  show gW p l e (gRm 2 141) s m args below meth c D cA ad shB 2 0 0 (gQ below D cA ad shB none q args s) 0 [(0, .ref 0), (1, .int x1)] [] w
  refine g_aload_n C (gdec dt_X0_loseHalf 0 rfl) (i := 0) rfl rfl ?_
  refine g_iload_n C (gdec dt_X0_loseHalf 1 rfl) (i := 1) rfl rfl ?_
  obtain ⟨q1, hq1, hf⟩ := Option.bind_eq_some_iff.mp hf
  refine g_invV [.int x1] [] C (c_X0_hasClerk l D cA _ (gCi C) w x1 q1 hq1) kT_X0_hasClerk kl_X0_84 kim_X0_hasClerk kse_X0_hasClerk rfl rfl (i := 0) rfl rfl ⟨by decide, by decide⟩ gk0 (Nat.le_of_ble_eq_true rfl) (gdec dt_X0_loseHalf 2 rfl) rfl (st2 := [.int q1]) rfl ?_
  refine g_if_eq C (tgt := 29) (gdec dt_X0_loseHalf 3 rfl) (by decide) (fun hc2 => ?_) (fun hc2 => ?_)
  · have hf := (if_pos hc2).symm.trans hf
    cases hf
    exact g_vret C rfl (gdec dt_X0_loseHalf 19 rfl)
  · have hf := (if_neg hc2).symm.trans hf
    refine g_aload_n C (gdec dt_X0_loseHalf 4 rfl) (i := 0) rfl rfl ?_
    refine g_getr C (j := 7) kf_X0_31 rfl rfl (gdec dt_X0_loseHalf 5 rfl) ?_
    refine g_iload_n C (gdec dt_X0_loseHalf 6 rfl) (i := 1) rfl rfl ?_
    refine g_aload_n C (gdec dt_X0_loseHalf 7 rfl) (i := 0) rfl rfl ?_
    refine g_getr C (j := 7) kf_X0_31 rfl rfl (gdec dt_X0_loseHalf 8 rfl) ?_
    refine g_iload_n C (gdec dt_X0_loseHalf 9 rfl) (i := 1) rfl rfl ?_
    obtain ⟨hg3, hf⟩ := gif hf
    refine g_iald C (i := 7) rfl hg3 rfl (gdec dt_X0_loseHalf 10 rfl) ?_
    refine g_iconst C (gdec dt_X0_loseHalf 11 rfl) ic_2 ?_
    refine g_idiv C (gdec dt_X0_loseHalf 12 rfl) (by decide) ?_
    refine g_iast C (i := 7) rfl hg3 rfl (gdec dt_X0_loseHalf 13 rfl) ?_
    refine g_aload_n C (gdec dt_X0_loseHalf 14 rfl) (i := 0) rfl rfl ?_
    refine g_getr C (j := 8) kf_X0_34 rfl rfl (gdec dt_X0_loseHalf 15 rfl) ?_
    refine g_iload_n C (gdec dt_X0_loseHalf 16 rfl) (i := 1) rfl rfl ?_
    refine g_iconst C (gdec dt_X0_loseHalf 17 rfl) ic_0 ?_
    refine g_iast C (i := 8) rfl hg3 rfl (gdec dt_X0_loseHalf 18 rfl) ?_
    cases hf
    exact g_vret C rfl (gdec dt_X0_loseHalf 19 rfl)
set_option maxHeartbeats 4000000 in
set_option maxRecDepth 100000 in
theorem c_X0_seatElsewhere (l : Launch) (D : va_G) (cA ad : Nat → Nat) (hin : gInj ad shB.length) (w : GW) (x1 : Int32) (x2 : Int32) (q : (Int32 × GW)) (hf : F_X0_seatElsewhere x1 x2 w = some q) : gMet l yX0_seatElsewhere cX0_seatElsewhere 3 (some .int) 3 162 D cA ad shB [.ref 0, .int x1, .int x2] w (some (.int q.1)) q.2 := by
  refine g_entry (by decide) hin (Nat.le_of_ble_eq_true rfl) ?_
  intro p e s m args below meth c C
  unfold F_X0_seatElsewhere at hf
  show gW p l e (gRm 3 162) s m args below meth c D cA ad shB 3 0 0 (gQ below D cA ad shB (some (.int q.1)) q.2 args s) 0 [(0, .ref 0), (1, .int x1), (2, .int x2)] [] w
  refine g_aload_n C (gdec dt_X0_seatElsewhere 0 rfl) (i := 0) rfl rfl ?_
  refine g_iload_n C (gdec dt_X0_seatElsewhere 1 rfl) (i := 1) rfl rfl ?_
  obtain ⟨q1, hq1, hf⟩ := Option.bind_eq_some_iff.mp hf
  refine g_invV [.int x1] [] C (c_X0_hasClerk l D cA _ (gCi C) w x1 q1 hq1) kT_X0_hasClerk kl_X0_84 kim_X0_hasClerk kse_X0_hasClerk rfl rfl (i := 0) rfl rfl ⟨by decide, by decide⟩ gk0 (Nat.le_of_ble_eq_true rfl) (gdec dt_X0_seatElsewhere 2 rfl) rfl (st2 := [.int q1]) rfl ?_
  refine g_if_eq C (tgt := 25) (gdec dt_X0_seatElsewhere 3 rfl) (by decide) (fun hc2 => ?_) (fun hc2 => ?_)
  · have hf := (if_pos hc2).symm.trans hf
    refine g_iconst C (gdec dt_X0_seatElsewhere 13 rfl) ic_m1 ?_
    cases hf
    exact g_iret C rfl (gdec dt_X0_seatElsewhere 14 rfl)
  · have hf := (if_neg hc2).symm.trans hf
    refine g_aload_n C (gdec dt_X0_seatElsewhere 4 rfl) (i := 0) rfl rfl ?_
    refine g_iload_n C (gdec dt_X0_seatElsewhere 5 rfl) (i := 2) rfl rfl ?_
    obtain ⟨q3, hq3, hf⟩ := Option.bind_eq_some_iff.mp hf
    refine g_invV [.int x2] [] C (c_X0_hasCorner l D cA _ (gCi C) w x2 q3 hq3) kT_X0_hasCorner kl_X0_102 kim_X0_hasCorner kse_X0_hasCorner rfl rfl (i := 0) rfl rfl ⟨by decide, by decide⟩ gk0 (Nat.le_of_ble_eq_true rfl) (gdec dt_X0_seatElsewhere 6 rfl) rfl (st2 := [.int q3]) rfl ?_
    refine g_if_eq C (tgt := 25) (gdec dt_X0_seatElsewhere 7 rfl) (by decide) (fun hc4 => ?_) (fun hc4 => ?_)
    · have hf := (if_pos hc4).symm.trans hf
      refine g_iconst C (gdec dt_X0_seatElsewhere 13 rfl) ic_m1 ?_
      cases hf
      exact g_iret C rfl (gdec dt_X0_seatElsewhere 14 rfl)
    · have hf := (if_neg hc4).symm.trans hf
      refine g_aload_n C (gdec dt_X0_seatElsewhere 8 rfl) (i := 0) rfl rfl ?_
      refine g_iload_n C (gdec dt_X0_seatElsewhere 9 rfl) (i := 2) rfl rfl ?_
      obtain ⟨q5, hq5, hf⟩ := Option.bind_eq_some_iff.mp hf
      refine g_invV [.int x2] [] C (c_X0_sitterIn l D cA _ (gCi C) w x2 q5 hq5) kT_X0_sitterIn kl_X0_124 kim_X0_sitterIn kse_X0_sitterIn rfl rfl (i := 0) rfl rfl ⟨by decide, by decide⟩ gk0 (Nat.le_of_ble_eq_true rfl) (gdec dt_X0_seatElsewhere 10 rfl) rfl (st2 := [.int q5]) rfl ?_
      refine g_iconst C (gdec dt_X0_seatElsewhere 11 rfl) ic_m1 ?_
      refine g_icmp_eq C (tgt := 27) (gdec dt_X0_seatElsewhere 12 rfl) (by decide) (fun hc6 => ?_) (fun hc6 => ?_)
      · have hf := (if_pos hc6).symm.trans hf
        refine g_aload_n C (gdec dt_X0_seatElsewhere 15 rfl) (i := 0) rfl rfl ?_
        refine g_getr C (j := 5) kf_X0_25 rfl rfl (gdec dt_X0_seatElsewhere 16 rfl) ?_
        refine g_iload_n C (gdec dt_X0_seatElsewhere 17 rfl) (i := 1) rfl rfl ?_
        refine g_iload_n C (gdec dt_X0_seatElsewhere 18 rfl) (i := 2) rfl rfl ?_
        obtain ⟨hg7, hf⟩ := gif hf
        refine g_iast C (i := 5) rfl hg7 rfl (gdec dt_X0_seatElsewhere 19 rfl) ?_
        refine g_aload_n C (gdec dt_X0_seatElsewhere 20 rfl) (i := 0) rfl rfl ?_
        refine g_iload_n C (gdec dt_X0_seatElsewhere 21 rfl) (i := 1) rfl rfl ?_
        obtain ⟨q8, hq8, hf⟩ := Option.bind_eq_some_iff.mp hf
        refine g_invV [.int x1] [] C (c_X0_loseHalf l D cA _ (gCi C) (gI w 5 x1.toNatClampNeg x2) x1 q8 hq8) kT_X0_loseHalf kl_X0_127 kim_X0_loseHalf kse_X0_loseHalf rfl rfl (i := 0) rfl rfl ⟨by decide, by decide⟩ gk0 (Nat.le_of_ble_eq_true rfl) (gdec dt_X0_seatElsewhere 22 rfl) rfl (st2 := []) rfl ?_
        refine g_aload_n C (gdec dt_X0_seatElsewhere 23 rfl) (i := 0) rfl rfl ?_
        refine g_getr C (j := 7) kf_X0_31 rfl rfl (gdec dt_X0_seatElsewhere 24 rfl) ?_
        refine g_iload_n C (gdec dt_X0_seatElsewhere 25 rfl) (i := 1) rfl rfl ?_
        refine g_iald C (i := 7) rfl hg7 rfl (gdec dt_X0_seatElsewhere 26 rfl) ?_
        cases hf
        exact g_iret C rfl (gdec dt_X0_seatElsewhere 27 rfl)
      · have hf := (if_neg hc6).symm.trans hf
        refine g_iconst C (gdec dt_X0_seatElsewhere 13 rfl) ic_m1 ?_
        cases hf
        exact g_iret C rfl (gdec dt_X0_seatElsewhere 14 rfl)
set_option maxHeartbeats 4000000 in
set_option maxRecDepth 100000 in
theorem c_X0_exchange (l : Launch) (D : va_G) (cA ad : Nat → Nat) (hin : gInj ad shB.length) (w : GW) (x1 : Int32) (x2 : Int32) (q : (Int32 × GW)) (hf : F_X0_exchange x1 x2 w = some q) : gMet l yX0_exchange cX0_exchange 4 (some .int) 3 162 D cA ad shB [.ref 0, .int x1, .int x2] w (some (.int q.1)) q.2 := by
  refine g_entry (by decide) hin (Nat.le_of_ble_eq_true rfl) ?_
  intro p e s m args below meth c C
  unfold F_X0_exchange at hf
  show gW p l e (gRm 3 162) s m args below meth c D cA ad shB 4 0 0 (gQ below D cA ad shB (some (.int q.1)) q.2 args s) 0 [(0, .ref 0), (1, .int x1), (2, .int x2)] [] w
  refine g_aload_n C (gdec dt_X0_exchange 0 rfl) (i := 0) rfl rfl ?_
  refine g_iload_n C (gdec dt_X0_exchange 1 rfl) (i := 1) rfl rfl ?_
  obtain ⟨q1, hq1, hf⟩ := Option.bind_eq_some_iff.mp hf
  refine g_invV [.int x1] [] C (c_X0_hasClerk l D cA _ (gCi C) w x1 q1 hq1) kT_X0_hasClerk kl_X0_84 kim_X0_hasClerk kse_X0_hasClerk rfl rfl (i := 0) rfl rfl ⟨by decide, by decide⟩ gk0 (Nat.le_of_ble_eq_true rfl) (gdec dt_X0_exchange 2 rfl) rfl (st2 := [.int q1]) rfl ?_
  refine g_if_eq C (tgt := 21) (gdec dt_X0_exchange 3 rfl) (by decide) (fun hc2 => ?_) (fun hc2 => ?_)
  · have hf := (if_pos hc2).symm.trans hf
    refine g_iconst C (gdec dt_X0_exchange 11 rfl) ic_m1 ?_
    cases hf
    exact g_iret C rfl (gdec dt_X0_exchange 12 rfl)
  · have hf := (if_neg hc2).symm.trans hf
    refine g_aload_n C (gdec dt_X0_exchange 4 rfl) (i := 0) rfl rfl ?_
    refine g_iload_n C (gdec dt_X0_exchange 5 rfl) (i := 2) rfl rfl ?_
    obtain ⟨q3, hq3, hf⟩ := Option.bind_eq_some_iff.mp hf
    refine g_invV [.int x2] [] C (c_X0_hasClerk l D cA _ (gCi C) w x2 q3 hq3) kT_X0_hasClerk kl_X0_84 kim_X0_hasClerk kse_X0_hasClerk rfl rfl (i := 0) rfl rfl ⟨by decide, by decide⟩ gk0 (Nat.le_of_ble_eq_true rfl) (gdec dt_X0_exchange 6 rfl) rfl (st2 := [.int q3]) rfl ?_
    refine g_if_eq C (tgt := 21) (gdec dt_X0_exchange 7 rfl) (by decide) (fun hc4 => ?_) (fun hc4 => ?_)
    · have hf := (if_pos hc4).symm.trans hf
      refine g_iconst C (gdec dt_X0_exchange 11 rfl) ic_m1 ?_
      cases hf
      exact g_iret C rfl (gdec dt_X0_exchange 12 rfl)
    · have hf := (if_neg hc4).symm.trans hf
      refine g_iload_n C (gdec dt_X0_exchange 8 rfl) (i := 1) rfl rfl ?_
      refine g_iload_n C (gdec dt_X0_exchange 9 rfl) (i := 2) rfl rfl ?_
      refine g_icmp_ne C (tgt := 23) (gdec dt_X0_exchange 10 rfl) (by decide) (fun hc5 => ?_) (fun hc5 => ?_)
      · have hf := (if_neg hc5).symm.trans hf
        refine g_aload_n C (gdec dt_X0_exchange 13 rfl) (i := 0) rfl rfl ?_
        refine g_getr C (j := 5) kf_X0_25 rfl rfl (gdec dt_X0_exchange 14 rfl) ?_
        refine g_iload_n C (gdec dt_X0_exchange 15 rfl) (i := 1) rfl rfl ?_
        obtain ⟨hg6, hf⟩ := gif hf
        refine g_iald C (i := 5) rfl hg6 rfl (gdec dt_X0_exchange 16 rfl) ?_
        refine g_istore_n C (gdec dt_X0_exchange 17 rfl) (i := 3) rfl (by decide) (lo2 := [(3, .int (w.1 5 x1.toNatClampNeg)), (0, .ref 0), (1, .int x1), (2, .int x2)]) rfl ?_
        refine g_aload_n C (gdec dt_X0_exchange 18 rfl) (i := 0) rfl rfl ?_
        refine g_getr C (j := 5) kf_X0_25 rfl rfl (gdec dt_X0_exchange 19 rfl) ?_
        refine g_iload_n C (gdec dt_X0_exchange 20 rfl) (i := 1) rfl rfl ?_
        refine g_aload_n C (gdec dt_X0_exchange 21 rfl) (i := 0) rfl rfl ?_
        refine g_getr C (j := 5) kf_X0_25 rfl rfl (gdec dt_X0_exchange 22 rfl) ?_
        refine g_iload_n C (gdec dt_X0_exchange 23 rfl) (i := 2) rfl rfl ?_
        obtain ⟨hg7, hf⟩ := gif hf
        refine g_iald C (i := 5) rfl hg7 rfl (gdec dt_X0_exchange 24 rfl) ?_
        refine g_iast C (i := 5) rfl hg6 rfl (gdec dt_X0_exchange 25 rfl) ?_
        refine g_aload_n C (gdec dt_X0_exchange 26 rfl) (i := 0) rfl rfl ?_
        refine g_getr C (j := 5) kf_X0_25 rfl rfl (gdec dt_X0_exchange 27 rfl) ?_
        refine g_iload_n C (gdec dt_X0_exchange 28 rfl) (i := 2) rfl rfl ?_
        refine g_iload_n C (gdec dt_X0_exchange 29 rfl) (i := 3) rfl rfl ?_
        refine g_iast C (i := 5) rfl hg7 rfl (gdec dt_X0_exchange 30 rfl) ?_
        refine g_aload_n C (gdec dt_X0_exchange 31 rfl) (i := 0) rfl rfl ?_
        refine g_iload_n C (gdec dt_X0_exchange 32 rfl) (i := 1) rfl rfl ?_
        obtain ⟨q8, hq8, hf⟩ := Option.bind_eq_some_iff.mp hf
        refine g_invV [.int x1] [] C (c_X0_loseHalf l D cA _ (gCi C) (gI (gI w 5 x1.toNatClampNeg (w.1 5 x2.toNatClampNeg)) 5 x2.toNatClampNeg (w.1 5 x1.toNatClampNeg)) x1 q8 hq8) kT_X0_loseHalf kl_X0_127 kim_X0_loseHalf kse_X0_loseHalf rfl rfl (i := 0) rfl rfl ⟨by decide, by decide⟩ gk0 (Nat.le_of_ble_eq_true rfl) (gdec dt_X0_exchange 33 rfl) rfl (st2 := []) rfl ?_
        refine g_aload_n C (gdec dt_X0_exchange 34 rfl) (i := 0) rfl rfl ?_
        refine g_iload_n C (gdec dt_X0_exchange 35 rfl) (i := 2) rfl rfl ?_
        obtain ⟨q9, hq9, hf⟩ := Option.bind_eq_some_iff.mp hf
        refine g_invV [.int x2] [] C (c_X0_loseHalf l D cA _ (gCi C) q8 x2 q9 hq9) kT_X0_loseHalf kl_X0_127 kim_X0_loseHalf kse_X0_loseHalf rfl rfl (i := 0) rfl rfl ⟨by decide, by decide⟩ gk0 (Nat.le_of_ble_eq_true rfl) (gdec dt_X0_exchange 36 rfl) rfl (st2 := []) rfl ?_
        refine g_aload_n C (gdec dt_X0_exchange 37 rfl) (i := 0) rfl rfl ?_
        refine g_getr C (j := 7) kf_X0_31 rfl rfl (gdec dt_X0_exchange 38 rfl) ?_
        refine g_iload_n C (gdec dt_X0_exchange 39 rfl) (i := 1) rfl rfl ?_
        refine g_iald C (i := 7) rfl hg6 rfl (gdec dt_X0_exchange 40 rfl) ?_
        refine g_aload_n C (gdec dt_X0_exchange 41 rfl) (i := 0) rfl rfl ?_
        refine g_getr C (j := 7) kf_X0_31 rfl rfl (gdec dt_X0_exchange 42 rfl) ?_
        refine g_iload_n C (gdec dt_X0_exchange 43 rfl) (i := 2) rfl rfl ?_
        refine g_iald C (i := 7) rfl hg7 rfl (gdec dt_X0_exchange 44 rfl) ?_
        refine g_iadd C (gdec dt_X0_exchange 45 rfl) ?_
        cases hf
        exact g_iret C rfl (gdec dt_X0_exchange 46 rfl)
      · have hf := (if_pos hc5).symm.trans hf
        refine g_iconst C (gdec dt_X0_exchange 11 rfl) ic_m1 ?_
        cases hf
        exact g_iret C rfl (gdec dt_X0_exchange 12 rfl)
set_option maxHeartbeats 4000000 in
set_option maxRecDepth 100000 in
theorem c_X0_addSham (l : Launch) (D : va_G) (cA ad : Nat → Nat) (hin : gInj ad shB.length) (w : GW) (x1 : Int32) (x2 : Int32) (q : (Int32 × GW)) (hf : F_X0_addSham x1 x2 w = some q) : gMet l yX0_addSham cX0_addSham 3 (some .int) 2 141 D cA ad shB [.ref 0, .int x1, .int x2] w (some (.int q.1)) q.2 := by
  refine g_entry (by decide) hin (Nat.le_of_ble_eq_true rfl) ?_
  intro p e s m args below meth c C
  unfold F_X0_addSham at hf
  show gW p l e (gRm 2 141) s m args below meth c D cA ad shB 3 0 0 (gQ below D cA ad shB (some (.int q.1)) q.2 args s) 0 [(0, .ref 0), (1, .int x1), (2, .int x2)] [] w
  refine g_aload_n C (gdec dt_X0_addSham 0 rfl) (i := 0) rfl rfl ?_
  refine g_iload_n C (gdec dt_X0_addSham 1 rfl) (i := 1) rfl rfl ?_
  obtain ⟨q1, hq1, hf⟩ := Option.bind_eq_some_iff.mp hf
  refine g_invV [.int x1] [] C (c_X0_hasClerk l D cA _ (gCi C) w x1 q1 hq1) kT_X0_hasClerk kl_X0_84 kim_X0_hasClerk kse_X0_hasClerk rfl rfl (i := 0) rfl rfl ⟨by decide, by decide⟩ gk0 (Nat.le_of_ble_eq_true rfl) (gdec dt_X0_addSham 2 rfl) rfl (st2 := [.int q1]) rfl ?_
  refine g_if_eq C (tgt := 19) (gdec dt_X0_addSham 3 rfl) (by decide) (fun hc2 => ?_) (fun hc2 => ?_)
  · have hf := (if_pos hc2).symm.trans hf
    refine g_iconst C (gdec dt_X0_addSham 10 rfl) ic_m1 ?_
    cases hf
    exact g_iret C rfl (gdec dt_X0_addSham 11 rfl)
  · have hf := (if_neg hc2).symm.trans hf
    refine g_aload_n C (gdec dt_X0_addSham 4 rfl) (i := 0) rfl rfl ?_
    refine g_getr C (j := 8) kf_X0_34 rfl rfl (gdec dt_X0_addSham 5 rfl) ?_
    refine g_iload_n C (gdec dt_X0_addSham 6 rfl) (i := 1) rfl rfl ?_
    obtain ⟨hg3, hf⟩ := gif hf
    refine g_iald C (i := 8) rfl hg3 rfl (gdec dt_X0_addSham 7 rfl) ?_
    refine g_bipush C (gdec dt_X0_addSham 8 rfl) bc_99 ?_
    refine g_icmp_lt C (tgt := 21) (gdec dt_X0_addSham 9 rfl) (by decide) (fun hc4 => ?_) (fun hc4 => ?_)
    · have hf := (if_pos hc4).symm.trans hf
      refine g_aload_n C (gdec dt_X0_addSham 12 rfl) (i := 0) rfl rfl ?_
      refine g_getr C (j := 8) kf_X0_34 rfl rfl (gdec dt_X0_addSham 13 rfl) ?_
      refine g_iload_n C (gdec dt_X0_addSham 14 rfl) (i := 1) rfl rfl ?_
      refine g_bipush C (gdec dt_X0_addSham 15 rfl) bc_99 ?_
      refine g_aload_n C (gdec dt_X0_addSham 16 rfl) (i := 0) rfl rfl ?_
      refine g_getr C (j := 8) kf_X0_34 rfl rfl (gdec dt_X0_addSham 17 rfl) ?_
      refine g_iload_n C (gdec dt_X0_addSham 18 rfl) (i := 1) rfl rfl ?_
      refine g_iald C (i := 8) rfl hg3 rfl (gdec dt_X0_addSham 19 rfl) ?_
      refine g_iload_n C (gdec dt_X0_addSham 20 rfl) (i := 2) rfl rfl ?_
      refine g_iadd C (gdec dt_X0_addSham 21 rfl) ?_
      refine g_mmin C (gdec dt_X0_addSham 22 rfl) kl_X0_116 kst_min ki_Math kc_Mmin (Nat.le_of_ble_eq_true rfl) ⟨by decide, by decide⟩ gk0 ?_
      refine g_iast C (i := 8) rfl hg3 rfl (gdec dt_X0_addSham 23 rfl) ?_
      refine g_aload_n C (gdec dt_X0_addSham 24 rfl) (i := 0) rfl rfl ?_
      refine g_getr C (j := 8) kf_X0_34 rfl rfl (gdec dt_X0_addSham 25 rfl) ?_
      refine g_iload_n C (gdec dt_X0_addSham 26 rfl) (i := 1) rfl rfl ?_
      refine g_iald C (i := 8) rfl hg3 rfl (gdec dt_X0_addSham 27 rfl) ?_
      cases hf
      exact g_iret C rfl (gdec dt_X0_addSham 28 rfl)
    · have hf := (if_neg hc4).symm.trans hf
      refine g_iconst C (gdec dt_X0_addSham 10 rfl) ic_m1 ?_
      cases hf
      exact g_iret C rfl (gdec dt_X0_addSham 11 rfl)
set_option maxHeartbeats 4000000 in
set_option maxRecDepth 100000 in
theorem c_X0_wipe (l : Launch) (D : va_G) (cA ad : Nat → Nat) (hin : gInj ad shB.length) (w : GW) (x1 : Int32) (q : (Int32 × GW)) (hf : F_X0_wipe x1 w = some q) : gMet l yX0_wipe cX0_wipe 3 (some .int) 2 141 D cA ad shB [.ref 0, .int x1] w (some (.int q.1)) q.2 := by
  refine g_entry (by decide) hin (Nat.le_of_ble_eq_true rfl) ?_
  intro p e s m args below meth c C
  unfold F_X0_wipe at hf
  show gW p l e (gRm 2 141) s m args below meth c D cA ad shB 3 0 0 (gQ below D cA ad shB (some (.int q.1)) q.2 args s) 0 [(0, .ref 0), (1, .int x1)] [] w
  refine g_aload_n C (gdec dt_X0_wipe 0 rfl) (i := 0) rfl rfl ?_
  refine g_iload_n C (gdec dt_X0_wipe 1 rfl) (i := 1) rfl rfl ?_
  obtain ⟨q1, hq1, hf⟩ := Option.bind_eq_some_iff.mp hf
  refine g_invV [.int x1] [] C (c_X0_hasClerk l D cA _ (gCi C) w x1 q1 hq1) kT_X0_hasClerk kl_X0_84 kim_X0_hasClerk kse_X0_hasClerk rfl rfl (i := 0) rfl rfl ⟨by decide, by decide⟩ gk0 (Nat.le_of_ble_eq_true rfl) (gdec dt_X0_wipe 2 rfl) rfl (st2 := [.int q1]) rfl ?_
  refine g_if_eq C (tgt := 24) (gdec dt_X0_wipe 3 rfl) (by decide) (fun hc2 => ?_) (fun hc2 => ?_)
  · have hf := (if_pos hc2).symm.trans hf
    refine g_iconst C (gdec dt_X0_wipe 14 rfl) ic_m1 ?_
    cases hf
    exact g_iret C rfl (gdec dt_X0_wipe 15 rfl)
  · have hf := (if_neg hc2).symm.trans hf
    refine g_aload_n C (gdec dt_X0_wipe 4 rfl) (i := 0) rfl rfl ?_
    refine g_getr C (j := 7) kf_X0_31 rfl rfl (gdec dt_X0_wipe 5 rfl) ?_
    refine g_iload_n C (gdec dt_X0_wipe 6 rfl) (i := 1) rfl rfl ?_
    obtain ⟨hg3, hf⟩ := gif hf
    refine g_iald C (i := 7) rfl hg3 rfl (gdec dt_X0_wipe 7 rfl) ?_
    refine g_aload_n C (gdec dt_X0_wipe 8 rfl) (i := 0) rfl rfl ?_
    refine g_getr C (j := 8) kf_X0_34 rfl rfl (gdec dt_X0_wipe 9 rfl) ?_
    refine g_iload_n C (gdec dt_X0_wipe 10 rfl) (i := 1) rfl rfl ?_
    refine g_iald C (i := 8) rfl hg3 rfl (gdec dt_X0_wipe 11 rfl) ?_
    refine g_iadd C (gdec dt_X0_wipe 12 rfl) ?_
    refine g_if_ne C (tgt := 26) (gdec dt_X0_wipe 13 rfl) (by decide) (fun hc4 => ?_) (fun hc4 => ?_)
    · have hf := (if_neg hc4).symm.trans hf
      refine g_aload_n C (gdec dt_X0_wipe 16 rfl) (i := 0) rfl rfl ?_
      refine g_getr C (j := 7) kf_X0_31 rfl rfl (gdec dt_X0_wipe 17 rfl) ?_
      refine g_iload_n C (gdec dt_X0_wipe 18 rfl) (i := 1) rfl rfl ?_
      refine g_iald C (i := 7) rfl hg3 rfl (gdec dt_X0_wipe 19 rfl) ?_
      refine g_aload_n C (gdec dt_X0_wipe 20 rfl) (i := 0) rfl rfl ?_
      refine g_getr C (j := 8) kf_X0_34 rfl rfl (gdec dt_X0_wipe 21 rfl) ?_
      refine g_iload_n C (gdec dt_X0_wipe 22 rfl) (i := 1) rfl rfl ?_
      refine g_iald C (i := 8) rfl hg3 rfl (gdec dt_X0_wipe 23 rfl) ?_
      refine g_iadd C (gdec dt_X0_wipe 24 rfl) ?_
      refine g_istore_n C (gdec dt_X0_wipe 25 rfl) (i := 2) rfl (by decide) (lo2 := [(2, .int ((w.1 7 x1.toNatClampNeg) + (w.1 8 x1.toNatClampNeg))), (0, .ref 0), (1, .int x1)]) rfl ?_
      refine g_aload_n C (gdec dt_X0_wipe 26 rfl) (i := 0) rfl rfl ?_
      refine g_getr C (j := 7) kf_X0_31 rfl rfl (gdec dt_X0_wipe 27 rfl) ?_
      refine g_iload_n C (gdec dt_X0_wipe 28 rfl) (i := 1) rfl rfl ?_
      refine g_iconst C (gdec dt_X0_wipe 29 rfl) ic_0 ?_
      refine g_iast C (i := 7) rfl hg3 rfl (gdec dt_X0_wipe 30 rfl) ?_
      refine g_aload_n C (gdec dt_X0_wipe 31 rfl) (i := 0) rfl rfl ?_
      refine g_getr C (j := 8) kf_X0_34 rfl rfl (gdec dt_X0_wipe 32 rfl) ?_
      refine g_iload_n C (gdec dt_X0_wipe 33 rfl) (i := 1) rfl rfl ?_
      refine g_iconst C (gdec dt_X0_wipe 34 rfl) ic_0 ?_
      refine g_iast C (i := 8) rfl hg3 rfl (gdec dt_X0_wipe 35 rfl) ?_
      refine g_iload_n C (gdec dt_X0_wipe 36 rfl) (i := 2) rfl rfl ?_
      cases hf
      exact g_iret C rfl (gdec dt_X0_wipe 37 rfl)
    · have hf := (if_pos hc4).symm.trans hf
      refine g_iconst C (gdec dt_X0_wipe 14 rfl) ic_m1 ?_
      cases hf
      exact g_iret C rfl (gdec dt_X0_wipe 15 rfl)
set_option maxHeartbeats 4000000 in
set_option maxRecDepth 100000 in
theorem c_X0_exposeSham (l : Launch) (D : va_G) (cA ad : Nat → Nat) (hin : gInj ad shB.length) (w : GW) (x1 : Int32) (q : (Int32 × GW)) (hf : F_X0_exposeSham x1 w = some q) : gMet l yX0_exposeSham cX0_exposeSham 3 (some .int) 2 141 D cA ad shB [.ref 0, .int x1] w (some (.int q.1)) q.2 := by
  refine g_entry (by decide) hin (Nat.le_of_ble_eq_true rfl) ?_
  intro p e s m args below meth c C
  unfold F_X0_exposeSham at hf
  show gW p l e (gRm 2 141) s m args below meth c D cA ad shB 3 0 0 (gQ below D cA ad shB (some (.int q.1)) q.2 args s) 0 [(0, .ref 0), (1, .int x1)] [] w
  refine g_aload_n C (gdec dt_X0_exposeSham 0 rfl) (i := 0) rfl rfl ?_
  refine g_iload_n C (gdec dt_X0_exposeSham 1 rfl) (i := 1) rfl rfl ?_
  obtain ⟨q1, hq1, hf⟩ := Option.bind_eq_some_iff.mp hf
  refine g_invV [.int x1] [] C (c_X0_hasClerk l D cA _ (gCi C) w x1 q1 hq1) kT_X0_hasClerk kl_X0_84 kim_X0_hasClerk kse_X0_hasClerk rfl rfl (i := 0) rfl rfl ⟨by decide, by decide⟩ gk0 (Nat.le_of_ble_eq_true rfl) (gdec dt_X0_exposeSham 2 rfl) rfl (st2 := [.int q1]) rfl ?_
  refine g_if_eq C (tgt := 17) (gdec dt_X0_exposeSham 3 rfl) (by decide) (fun hc2 => ?_) (fun hc2 => ?_)
  · have hf := (if_pos hc2).symm.trans hf
    refine g_iconst C (gdec dt_X0_exposeSham 9 rfl) ic_m1 ?_
    cases hf
    exact g_iret C rfl (gdec dt_X0_exposeSham 10 rfl)
  · have hf := (if_neg hc2).symm.trans hf
    refine g_aload_n C (gdec dt_X0_exposeSham 4 rfl) (i := 0) rfl rfl ?_
    refine g_getr C (j := 8) kf_X0_34 rfl rfl (gdec dt_X0_exposeSham 5 rfl) ?_
    refine g_iload_n C (gdec dt_X0_exposeSham 6 rfl) (i := 1) rfl rfl ?_
    obtain ⟨hg3, hf⟩ := gif hf
    refine g_iald C (i := 8) rfl hg3 rfl (gdec dt_X0_exposeSham 7 rfl) ?_
    refine g_if_ne C (tgt := 19) (gdec dt_X0_exposeSham 8 rfl) (by decide) (fun hc4 => ?_) (fun hc4 => ?_)
    · have hf := (if_neg hc4).symm.trans hf
      refine g_aload_n C (gdec dt_X0_exposeSham 11 rfl) (i := 0) rfl rfl ?_
      refine g_getr C (j := 8) kf_X0_34 rfl rfl (gdec dt_X0_exposeSham 12 rfl) ?_
      refine g_iload_n C (gdec dt_X0_exposeSham 13 rfl) (i := 1) rfl rfl ?_
      refine g_iald C (i := 8) rfl hg3 rfl (gdec dt_X0_exposeSham 14 rfl) ?_
      refine g_istore_n C (gdec dt_X0_exposeSham 15 rfl) (i := 2) rfl (by decide) (lo2 := [(2, .int (w.1 8 x1.toNatClampNeg)), (0, .ref 0), (1, .int x1)]) rfl ?_
      refine g_aload_n C (gdec dt_X0_exposeSham 16 rfl) (i := 0) rfl rfl ?_
      refine g_getr C (j := 8) kf_X0_34 rfl rfl (gdec dt_X0_exposeSham 17 rfl) ?_
      refine g_iload_n C (gdec dt_X0_exposeSham 18 rfl) (i := 1) rfl rfl ?_
      refine g_iconst C (gdec dt_X0_exposeSham 19 rfl) ic_0 ?_
      refine g_iast C (i := 8) rfl hg3 rfl (gdec dt_X0_exposeSham 20 rfl) ?_
      refine g_iload_n C (gdec dt_X0_exposeSham 21 rfl) (i := 2) rfl rfl ?_
      cases hf
      exact g_iret C rfl (gdec dt_X0_exposeSham 22 rfl)
    · have hf := (if_pos hc4).symm.trans hf
      refine g_iconst C (gdec dt_X0_exposeSham 9 rfl) ic_m1 ?_
      cases hf
      exact g_iret C rfl (gdec dt_X0_exposeSham 10 rfl)
set_option maxHeartbeats 4000000 in
set_option maxRecDepth 100000 in
theorem L_X0_comingWithout_83 {p : Program} {l : Launch} {e : Env} {s : State} {m : MethodId} {args : Array Value} {below : List Frame} {meth : Method} {c : Code} {D : va_G} {cA ad : Nat → Nat} {w : GW} {q : Int32} (C : gC p c cX0_comingWithout meth m s args 8 (some .int) RX0 D cA ad shB) {k30 : Int32 → Int32 → Int32 → Int32 → Int32 → Int32 → Option Int32} (hk30 : ∀ (x1 : Int32) (x2 : Int32) (x3 : Int32) (x4 : Int32) (x5 : Int32) (x6 : Int32), k30 x1 x2 x3 x4 x5 x6 = some q → gW p l e (gRm 1 120) s m args below meth c D cA ad shB 8 0 0 (gQ below D cA ad shB (some (.int q)) w args s) 30 [(0, .ref 0), (1, .int x1), (2, .int x2), (3, .int x3), (4, .int x4), (5, .int x5), (6, .int x6)] [] w) (x1 : Int32) (x2 : Int32) (x3 : Int32) (x4 : Int32) (x5 : Int32) (x6 : Int32) (hf : f_X0_comingWithout_83 k30 w x1 x2 x3 x4 x5 x6 = some q) : gW p l e (gRm 1 120) s m args below meth c D cA ad shB 8 0 0 (gQ below D cA ad shB (some (.int q)) w args s) 83 [(0, .ref 0), (1, .int x1), (2, .int x2), (3, .int x3), (4, .int x4), (5, .int x5), (6, .int x6)] [] w := by
  unfold f_X0_comingWithout_83 at hf
  refine g_iinc C (gdec dt_X0_comingWithout 51 rfl) (kk := 6) rfl (v := (x6 + (1 : Int32))) rfl (by decide) (lo2 := [(6, .int (x6 + (1 : Int32))), (0, .ref 0), (1, .int x1), (2, .int x2), (3, .int x3), (4, .int x4), (5, .int x5)]) rfl ?_
  refine g_goto C (tgt := 30) (gdec dt_X0_comingWithout 52 rfl) (by decide) ?_
  refine g_sub [1, 2, 3, 4, 5, 6, 0] (lo2 := [(0, .ref 0), (1, .int x1), (2, .int x2), (3, .int x3), (4, .int x4), (5, .int x5), (6, .int (x6 + (1 : Int32)))]) rfl ?_
  exact hk30 x1 x2 x3 x4 x5 (x6 + (1 : Int32)) hf
set_option maxHeartbeats 4000000 in
set_option maxRecDepth 100000 in
theorem Lb_X0_comingWithout_30 {p : Program} {l : Launch} {e : Env} {s : State} {m : MethodId} {args : Array Value} {below : List Frame} {meth : Method} {c : Code} {D : va_G} {cA ad : Nat → Nat} {w : GW} {q : Int32} (C : gC p c cX0_comingWithout meth m s args 8 (some .int) RX0 D cA ad shB) {k10 : Int32 → Int32 → Int32 → Int32 → Int32 → Option Int32} (hk10 : ∀ (x1 : Int32) (x2 : Int32) (x3 : Int32) (x4 : Int32) (x5 : Int32), k10 x1 x2 x3 x4 x5 = some q → gW p l e (gRm 1 120) s m args below meth c D cA ad shB 8 0 0 (gQ below D cA ad shB (some (.int q)) w args s) 10 [(0, .ref 0), (1, .int x1), (2, .int x2), (3, .int x3), (4, .int x4), (5, .int x5)] [] w) {k30 : Int32 → Int32 → Int32 → Int32 → Int32 → Int32 → Option Int32} (hk30 : ∀ (x1 : Int32) (x2 : Int32) (x3 : Int32) (x4 : Int32) (x5 : Int32) (x6 : Int32), k30 x1 x2 x3 x4 x5 x6 = some q → gW p l e (gRm 1 120) s m args below meth c D cA ad shB 8 0 0 (gQ below D cA ad shB (some (.int q)) w args s) 30 [(0, .ref 0), (1, .int x1), (2, .int x2), (3, .int x3), (4, .int x4), (5, .int x5), (6, .int x6)] [] w) (x1 : Int32) (x2 : Int32) (x3 : Int32) (x4 : Int32) (x5 : Int32) (x6 : Int32) (hf : b_X0_comingWithout_30 k10 k30 w x1 x2 x3 x4 x5 x6 = some q) : gW p l e (gRm 1 120) s m args below meth c D cA ad shB 8 0 0 (gQ below D cA ad shB (some (.int q)) w args s) 30 [(0, .ref 0), (1, .int x1), (2, .int x2), (3, .int x3), (4, .int x4), (5, .int x5), (6, .int x6)] [] w := by
  unfold b_X0_comingWithout_30 at hf
  refine g_iload C (gdec dt_X0_comingWithout 18 rfl) rfl ?_
  refine g_aload_n C (gdec dt_X0_comingWithout 19 rfl) (i := 0) rfl rfl ?_
  refine g_geti C kf_X0_71 rfl rfl (gdec dt_X0_comingWithout 20 rfl) ?_
  refine g_icmp_ge C (tgt := 89) (gdec dt_X0_comingWithout 21 rfl) (by decide) (fun hc3 => ?_) (fun hc3 => ?_)
  · have hf := (if_pos hc3).symm.trans hf
    refine g_iinc C (gdec dt_X0_comingWithout 53 rfl) (kk := 5) rfl (v := (x5 + (1 : Int32))) rfl (by decide) (lo2 := [(5, .int (x5 + (1 : Int32))), (0, .ref 0), (1, .int x1), (2, .int x2), (3, .int x3), (4, .int x4), (6, .int x6)]) rfl ?_
    refine g_goto C (tgt := 10) (gdec dt_X0_comingWithout 54 rfl) (by decide) ?_
    refine g_sub [1, 2, 3, 4, 5, 0] (lo2 := [(0, .ref 0), (1, .int x1), (2, .int x2), (3, .int x3), (4, .int x4), (5, .int (x5 + (1 : Int32)))]) rfl ?_
    exact hk10 x1 x2 x3 x4 (x5 + (1 : Int32)) hf
  · have hf := (if_neg hc3).symm.trans hf
    refine g_iconst C (gdec dt_X0_comingWithout 22 rfl) ic_1 ?_
    refine g_iload C (gdec dt_X0_comingWithout 23 rfl) rfl ?_
    refine g_ishl C (gdec dt_X0_comingWithout 24 rfl) ?_
    refine g_istore C (gdec dt_X0_comingWithout 25 rfl) (by decide) (lo2 := [(7, .int ((1 : Int32) <<< (x6 &&& 31))), (0, .ref 0), (1, .int x1), (2, .int x2), (3, .int x3), (4, .int x4), (5, .int x5), (6, .int x6)]) rfl ?_
    refine g_iload_n C (gdec dt_X0_comingWithout 26 rfl) (i := 2) rfl rfl ?_
    refine g_iload_n C (gdec dt_X0_comingWithout 27 rfl) (i := 1) rfl rfl ?_
    refine g_ior C (gdec dt_X0_comingWithout 28 rfl) ?_
    refine g_iload C (gdec dt_X0_comingWithout 29 rfl) rfl ?_
    refine g_iand C (gdec dt_X0_comingWithout 30 rfl) ?_
    refine g_if_ne C (tgt := 83) (gdec dt_X0_comingWithout 31 rfl) (by decide) (fun hc4 => ?_) (fun hc4 => ?_)
    · have hf := (if_neg hc4).symm.trans hf
      refine g_sub [1, 2, 3, 4, 5, 6, 7] (lo2 := [(0, .ref 0), (1, .int x1), (2, .int x2), (3, .int x3), (4, .int x4), (5, .int x5), (6, .int x6)]) rfl ?_
      exact L_X0_comingWithout_83 C hk30 x1 x2 x3 x4 x5 x6 hf
    · have hf := (if_pos hc4).symm.trans hf
      refine g_aload_n C (gdec dt_X0_comingWithout 32 rfl) (i := 0) rfl rfl ?_
      refine g_getr C (j := 12) kf_X0_46 rfl rfl (gdec dt_X0_comingWithout 33 rfl) ?_
      refine g_iload C (gdec dt_X0_comingWithout 34 rfl) rfl ?_
      obtain ⟨hg5, hf⟩ := gif hf
      refine g_iald C (i := 12) rfl hg5 rfl (gdec dt_X0_comingWithout 35 rfl) ?_
      refine g_iload_n C (gdec dt_X0_comingWithout 36 rfl) (i := 3) rfl rfl ?_
      refine g_icmp_gt C (tgt := 83) (gdec dt_X0_comingWithout 37 rfl) (by decide) (fun hc6 => ?_) (fun hc6 => ?_)
      · have hf := (if_pos hc6).symm.trans hf
        refine g_sub [1, 2, 3, 4, 5, 6, 7] (lo2 := [(0, .ref 0), (1, .int x1), (2, .int x2), (3, .int x3), (4, .int x4), (5, .int x5), (6, .int x6)]) rfl ?_
        exact L_X0_comingWithout_83 C hk30 x1 x2 x3 x4 x5 x6 hf
      · have hf := (if_neg hc6).symm.trans hf
        refine g_iload_n C (gdec dt_X0_comingWithout 38 rfl) (i := 2) rfl rfl ?_
        refine g_iload C (gdec dt_X0_comingWithout 39 rfl) rfl ?_
        refine g_ior C (gdec dt_X0_comingWithout 40 rfl) ?_
        refine g_istore_n C (gdec dt_X0_comingWithout 41 rfl) (i := 2) rfl (by decide) (lo2 := [(2, .int (x2 ||| ((1 : Int32) <<< (x6 &&& 31)))), (7, .int ((1 : Int32) <<< (x6 &&& 31))), (0, .ref 0), (1, .int x1), (3, .int x3), (4, .int x4), (5, .int x5), (6, .int x6)]) rfl ?_
        refine g_iload_n C (gdec dt_X0_comingWithout 42 rfl) (i := 3) rfl rfl ?_
        refine g_aload_n C (gdec dt_X0_comingWithout 43 rfl) (i := 0) rfl rfl ?_
        refine g_getr C (j := 11) kf_X0_43 rfl rfl (gdec dt_X0_comingWithout 44 rfl) ?_
        refine g_iload C (gdec dt_X0_comingWithout 45 rfl) rfl ?_
        refine g_iald C (i := 11) rfl hg5 rfl (gdec dt_X0_comingWithout 46 rfl) ?_
        refine g_iadd C (gdec dt_X0_comingWithout 47 rfl) ?_
        refine g_istore_n C (gdec dt_X0_comingWithout 48 rfl) (i := 3) rfl (by decide) (lo2 := [(3, .int (x3 + (w.1 11 x6.toNatClampNeg))), (2, .int (x2 ||| ((1 : Int32) <<< (x6 &&& 31)))), (7, .int ((1 : Int32) <<< (x6 &&& 31))), (0, .ref 0), (1, .int x1), (4, .int x4), (5, .int x5), (6, .int x6)]) rfl ?_
        refine g_iconst C (gdec dt_X0_comingWithout 49 rfl) ic_1 ?_
        refine g_istore C (gdec dt_X0_comingWithout 50 rfl) (by decide) (lo2 := [(4, .int (1 : Int32)), (3, .int (x3 + (w.1 11 x6.toNatClampNeg))), (2, .int (x2 ||| ((1 : Int32) <<< (x6 &&& 31)))), (7, .int ((1 : Int32) <<< (x6 &&& 31))), (0, .ref 0), (1, .int x1), (5, .int x5), (6, .int x6)]) rfl ?_
        refine g_sub [4, 5, 2, 1, 0, 6, 7] (lo2 := [(0, .ref 0), (1, .int x1), (2, .int (x2 ||| ((1 : Int32) <<< (x6 &&& 31)))), (3, .int (x3 + (w.1 11 x6.toNatClampNeg))), (4, .int (1 : Int32)), (5, .int x5), (6, .int x6)]) rfl ?_
        exact L_X0_comingWithout_83 C hk30 x1 (x2 ||| ((1 : Int32) <<< (x6 &&& 31))) (x3 + (w.1 11 x6.toNatClampNeg)) (1 : Int32) x5 x6 hf
theorem L_X0_comingWithout_30 {p : Program} {l : Launch} {e : Env} {s : State} {m : MethodId} {args : Array Value} {below : List Frame} {meth : Method} {c : Code} {D : va_G} {cA ad : Nat → Nat} {w : GW} {q : Int32} (C : gC p c cX0_comingWithout meth m s args 8 (some .int) RX0 D cA ad shB) {k10 : Int32 → Int32 → Int32 → Int32 → Int32 → Option Int32} (hk10 : ∀ (x1 : Int32) (x2 : Int32) (x3 : Int32) (x4 : Int32) (x5 : Int32), k10 x1 x2 x3 x4 x5 = some q → gW p l e (gRm 1 120) s m args below meth c D cA ad shB 8 0 0 (gQ below D cA ad shB (some (.int q)) w args s) 10 [(0, .ref 0), (1, .int x1), (2, .int x2), (3, .int x3), (4, .int x4), (5, .int x5)] [] w) : ∀ (n : Nat) (x1 : Int32) (x2 : Int32) (x3 : Int32) (x4 : Int32) (x5 : Int32) (x6 : Int32), f_X0_comingWithout_30 k10 w n x1 x2 x3 x4 x5 x6 = some q → gW p l e (gRm 1 120) s m args below meth c D cA ad shB 8 0 0 (gQ below D cA ad shB (some (.int q)) w args s) 30 [(0, .ref 0), (1, .int x1), (2, .int x2), (3, .int x3), (4, .int x4), (5, .int x5), (6, .int x6)] [] w := by
  intro n
  induction n with
  | zero => intro _ _ _ _ _ _ hf; cases hf
  | succ n ih => intro x1 x2 x3 x4 x5 x6 hf; exact Lb_X0_comingWithout_30 C hk10 ih x1 x2 x3 x4 x5 x6 hf
set_option maxHeartbeats 4000000 in
set_option maxRecDepth 100000 in
theorem Lb_X0_comingWithout_10 {p : Program} {l : Launch} {e : Env} {s : State} {m : MethodId} {args : Array Value} {below : List Frame} {meth : Method} {c : Code} {D : va_G} {cA ad : Nat → Nat} {w : GW} {q : Int32} (C : gC p c cX0_comingWithout meth m s args 8 (some .int) RX0 D cA ad shB) {k10 : Int32 → Int32 → Int32 → Int32 → Int32 → Option Int32} (hk10 : ∀ (x1 : Int32) (x2 : Int32) (x3 : Int32) (x4 : Int32) (x5 : Int32), k10 x1 x2 x3 x4 x5 = some q → gW p l e (gRm 1 120) s m args below meth c D cA ad shB 8 0 0 (gQ below D cA ad shB (some (.int q)) w args s) 10 [(0, .ref 0), (1, .int x1), (2, .int x2), (3, .int x3), (4, .int x4), (5, .int x5)] [] w) (x1 : Int32) (x2 : Int32) (x3 : Int32) (x4 : Int32) (x5 : Int32) (hf : b_X0_comingWithout_10 k10 w x1 x2 x3 x4 x5 = some q) : gW p l e (gRm 1 120) s m args below meth c D cA ad shB 8 0 0 (gQ below D cA ad shB (some (.int q)) w args s) 10 [(0, .ref 0), (1, .int x1), (2, .int x2), (3, .int x3), (4, .int x4), (5, .int x5)] [] w := by
  unfold b_X0_comingWithout_10 at hf
  refine g_iload C (gdec dt_X0_comingWithout 8 rfl) rfl ?_
  refine g_aload_n C (gdec dt_X0_comingWithout 9 rfl) (i := 0) rfl rfl ?_
  refine g_geti C kf_X0_71 rfl rfl (gdec dt_X0_comingWithout 10 rfl) ?_
  refine g_icmp_ge C (tgt := 95) (gdec dt_X0_comingWithout 11 rfl) (by decide) (fun hc1 => ?_) (fun hc1 => ?_)
  · have hf := (if_pos hc1).symm.trans hf
    refine g_iload_n C (gdec dt_X0_comingWithout 55 rfl) (i := 2) rfl rfl ?_
    cases hf
    exact g_iret C rfl (gdec dt_X0_comingWithout 56 rfl)
  · have hf := (if_neg hc1).symm.trans hf
    refine g_iload C (gdec dt_X0_comingWithout 12 rfl) rfl ?_
    refine g_if_eq C (tgt := 95) (gdec dt_X0_comingWithout 13 rfl) (by decide) (fun hc2 => ?_) (fun hc2 => ?_)
    · have hf := (if_pos hc2).symm.trans hf
      refine g_iload_n C (gdec dt_X0_comingWithout 55 rfl) (i := 2) rfl rfl ?_
      cases hf
      exact g_iret C rfl (gdec dt_X0_comingWithout 56 rfl)
    · have hf := (if_neg hc2).symm.trans hf
      refine g_iconst C (gdec dt_X0_comingWithout 14 rfl) ic_0 ?_
      refine g_istore C (gdec dt_X0_comingWithout 15 rfl) (by decide) (lo2 := [(4, .int (0 : Int32)), (0, .ref 0), (1, .int x1), (2, .int x2), (3, .int x3), (5, .int x5)]) rfl ?_
      refine g_iconst C (gdec dt_X0_comingWithout 16 rfl) ic_0 ?_
      refine g_istore C (gdec dt_X0_comingWithout 17 rfl) (by decide) (lo2 := [(6, .int (0 : Int32)), (4, .int (0 : Int32)), (0, .ref 0), (1, .int x1), (2, .int x2), (3, .int x3), (5, .int x5)]) rfl ?_
      refine g_sub [2, 3, 4, 5, 1, 6, 0] (lo2 := [(0, .ref 0), (1, .int x1), (2, .int x2), (3, .int x3), (4, .int (0 : Int32)), (5, .int x5), (6, .int (0 : Int32))]) rfl ?_
      exact L_X0_comingWithout_30 C hk10 FU x1 x2 x3 (0 : Int32) x5 (0 : Int32) hf
theorem L_X0_comingWithout_10 {p : Program} {l : Launch} {e : Env} {s : State} {m : MethodId} {args : Array Value} {below : List Frame} {meth : Method} {c : Code} {D : va_G} {cA ad : Nat → Nat} {w : GW} {q : Int32} (C : gC p c cX0_comingWithout meth m s args 8 (some .int) RX0 D cA ad shB) : ∀ (n : Nat) (x1 : Int32) (x2 : Int32) (x3 : Int32) (x4 : Int32) (x5 : Int32), f_X0_comingWithout_10 w n x1 x2 x3 x4 x5 = some q → gW p l e (gRm 1 120) s m args below meth c D cA ad shB 8 0 0 (gQ below D cA ad shB (some (.int q)) w args s) 10 [(0, .ref 0), (1, .int x1), (2, .int x2), (3, .int x3), (4, .int x4), (5, .int x5)] [] w := by
  intro n
  induction n with
  | zero => intro _ _ _ _ _ hf; cases hf
  | succ n ih => intro x1 x2 x3 x4 x5 hf; exact Lb_X0_comingWithout_10 C ih x1 x2 x3 x4 x5 hf
set_option maxHeartbeats 4000000 in
set_option maxRecDepth 100000 in
theorem c_X0_comingWithout (l : Launch) (D : va_G) (cA ad : Nat → Nat) (hin : gInj ad shB.length) (w : GW) (x1 : Int32) (q : Int32) (hf : F_X0_comingWithout w x1 = some q) : gMet l yX0_comingWithout cX0_comingWithout 8 (some .int) 1 120 D cA ad shB [.ref 0, .int x1] w (some (.int q)) w := by
  refine g_entry (by decide) hin (Nat.le_of_ble_eq_true rfl) ?_
  intro p e s m args below meth c C
  unfold F_X0_comingWithout at hf
  show gW p l e (gRm 1 120) s m args below meth c D cA ad shB 8 0 0 (gQ below D cA ad shB (some (.int q)) w args s) 0 [(0, .ref 0), (1, .int x1)] [] w
  refine g_iconst C (gdec dt_X0_comingWithout 0 rfl) ic_0 ?_
  refine g_istore_n C (gdec dt_X0_comingWithout 1 rfl) (i := 2) rfl (by decide) (lo2 := [(2, .int (0 : Int32)), (0, .ref 0), (1, .int x1)]) rfl ?_
  refine g_iconst C (gdec dt_X0_comingWithout 2 rfl) ic_0 ?_
  refine g_istore_n C (gdec dt_X0_comingWithout 3 rfl) (i := 3) rfl (by decide) (lo2 := [(3, .int (0 : Int32)), (2, .int (0 : Int32)), (0, .ref 0), (1, .int x1)]) rfl ?_
  refine g_iconst C (gdec dt_X0_comingWithout 4 rfl) ic_1 ?_
  refine g_istore C (gdec dt_X0_comingWithout 5 rfl) (by decide) (lo2 := [(4, .int (1 : Int32)), (3, .int (0 : Int32)), (2, .int (0 : Int32)), (0, .ref 0), (1, .int x1)]) rfl ?_
  refine g_iconst C (gdec dt_X0_comingWithout 6 rfl) ic_0 ?_
  refine g_istore C (gdec dt_X0_comingWithout 7 rfl) (by decide) (lo2 := [(5, .int (0 : Int32)), (4, .int (1 : Int32)), (3, .int (0 : Int32)), (2, .int (0 : Int32)), (0, .ref 0), (1, .int x1)]) rfl ?_
  refine g_sub [4, 5, 3, 2, 1, 0] (lo2 := [(0, .ref 0), (1, .int x1), (2, .int (0 : Int32)), (3, .int (0 : Int32)), (4, .int (1 : Int32)), (5, .int (0 : Int32))]) rfl ?_
  exact L_X0_comingWithout_10 C FU x1 (0 : Int32) (0 : Int32) (1 : Int32) (0 : Int32) hf
set_option maxHeartbeats 4000000 in
set_option maxRecDepth 100000 in
theorem L_X0_sumOf_29 {p : Program} {l : Launch} {e : Env} {s : State} {m : MethodId} {args : Array Value} {below : List Frame} {meth : Method} {c : Code} {D : va_G} {cA ad : Nat → Nat} {w : GW} {q : Int32} (C : gC p c cX0_sumOf meth m s args 4 (some .int) RX0 D cA ad shB) {k4 : Int32 → Int32 → Int32 → Option Int32} (hk4 : ∀ (x1 : Int32) (x2 : Int32) (x3 : Int32), k4 x1 x2 x3 = some q → gW p l e (gRm 1 120) s m args below meth c D cA ad shB 4 0 0 (gQ below D cA ad shB (some (.int q)) w args s) 4 [(0, .ref 0), (1, .int x1), (2, .int x2), (3, .int x3)] [] w) (x1 : Int32) (x2 : Int32) (x3 : Int32) (hf : f_X0_sumOf_29 k4 w x1 x2 x3 = some q) : gW p l e (gRm 1 120) s m args below meth c D cA ad shB 4 0 0 (gQ below D cA ad shB (some (.int q)) w args s) 29 [(0, .ref 0), (1, .int x1), (2, .int x2), (3, .int x3)] [] w := by
  unfold f_X0_sumOf_29 at hf
  refine g_iinc C (gdec dt_X0_sumOf 21 rfl) (kk := 3) rfl (v := (x3 + (1 : Int32))) rfl (by decide) (lo2 := [(3, .int (x3 + (1 : Int32))), (0, .ref 0), (1, .int x1), (2, .int x2)]) rfl ?_
  refine g_goto C (tgt := 4) (gdec dt_X0_sumOf 22 rfl) (by decide) ?_
  refine g_sub [1, 2, 3, 0] (lo2 := [(0, .ref 0), (1, .int x1), (2, .int x2), (3, .int (x3 + (1 : Int32)))]) rfl ?_
  exact hk4 x1 x2 (x3 + (1 : Int32)) hf
set_option maxHeartbeats 4000000 in
set_option maxRecDepth 100000 in
theorem Lb_X0_sumOf_4 {p : Program} {l : Launch} {e : Env} {s : State} {m : MethodId} {args : Array Value} {below : List Frame} {meth : Method} {c : Code} {D : va_G} {cA ad : Nat → Nat} {w : GW} {q : Int32} (C : gC p c cX0_sumOf meth m s args 4 (some .int) RX0 D cA ad shB) {k4 : Int32 → Int32 → Int32 → Option Int32} (hk4 : ∀ (x1 : Int32) (x2 : Int32) (x3 : Int32), k4 x1 x2 x3 = some q → gW p l e (gRm 1 120) s m args below meth c D cA ad shB 4 0 0 (gQ below D cA ad shB (some (.int q)) w args s) 4 [(0, .ref 0), (1, .int x1), (2, .int x2), (3, .int x3)] [] w) (x1 : Int32) (x2 : Int32) (x3 : Int32) (hf : b_X0_sumOf_4 k4 w x1 x2 x3 = some q) : gW p l e (gRm 1 120) s m args below meth c D cA ad shB 4 0 0 (gQ below D cA ad shB (some (.int q)) w args s) 4 [(0, .ref 0), (1, .int x1), (2, .int x2), (3, .int x3)] [] w := by
  unfold b_X0_sumOf_4 at hf
  refine g_iload_n C (gdec dt_X0_sumOf 4 rfl) (i := 3) rfl rfl ?_
  refine g_aload_n C (gdec dt_X0_sumOf 5 rfl) (i := 0) rfl rfl ?_
  refine g_geti C kf_X0_71 rfl rfl (gdec dt_X0_sumOf 6 rfl) ?_
  refine g_icmp_ge C (tgt := 35) (gdec dt_X0_sumOf 7 rfl) (by decide) (fun hc1 => ?_) (fun hc1 => ?_)
  · have hf := (if_pos hc1).symm.trans hf
    refine g_iload_n C (gdec dt_X0_sumOf 23 rfl) (i := 2) rfl rfl ?_
    cases hf
    exact g_iret C rfl (gdec dt_X0_sumOf 24 rfl)
  · have hf := (if_neg hc1).symm.trans hf
    refine g_iload_n C (gdec dt_X0_sumOf 8 rfl) (i := 1) rfl rfl ?_
    refine g_iconst C (gdec dt_X0_sumOf 9 rfl) ic_1 ?_
    refine g_iload_n C (gdec dt_X0_sumOf 10 rfl) (i := 3) rfl rfl ?_
    refine g_ishl C (gdec dt_X0_sumOf 11 rfl) ?_
    refine g_iand C (gdec dt_X0_sumOf 12 rfl) ?_
    refine g_if_eq C (tgt := 29) (gdec dt_X0_sumOf 13 rfl) (by decide) (fun hc2 => ?_) (fun hc2 => ?_)
    · have hf := (if_pos hc2).symm.trans hf
      refine g_sub [0, 1, 2, 3] (lo2 := [(0, .ref 0), (1, .int x1), (2, .int x2), (3, .int x3)]) rfl ?_
      exact L_X0_sumOf_29 C hk4 x1 x2 x3 hf
    · have hf := (if_neg hc2).symm.trans hf
      refine g_iload_n C (gdec dt_X0_sumOf 14 rfl) (i := 2) rfl rfl ?_
      refine g_aload_n C (gdec dt_X0_sumOf 15 rfl) (i := 0) rfl rfl ?_
      refine g_getr C (j := 11) kf_X0_43 rfl rfl (gdec dt_X0_sumOf 16 rfl) ?_
      refine g_iload_n C (gdec dt_X0_sumOf 17 rfl) (i := 3) rfl rfl ?_
      obtain ⟨hg3, hf⟩ := gif hf
      refine g_iald C (i := 11) rfl hg3 rfl (gdec dt_X0_sumOf 18 rfl) ?_
      refine g_iadd C (gdec dt_X0_sumOf 19 rfl) ?_
      refine g_istore_n C (gdec dt_X0_sumOf 20 rfl) (i := 2) rfl (by decide) (lo2 := [(2, .int (x2 + (w.1 11 x3.toNatClampNeg))), (0, .ref 0), (1, .int x1), (3, .int x3)]) rfl ?_
      refine g_sub [1, 2, 0, 3] (lo2 := [(0, .ref 0), (1, .int x1), (2, .int (x2 + (w.1 11 x3.toNatClampNeg))), (3, .int x3)]) rfl ?_
      exact L_X0_sumOf_29 C hk4 x1 (x2 + (w.1 11 x3.toNatClampNeg)) x3 hf
theorem L_X0_sumOf_4 {p : Program} {l : Launch} {e : Env} {s : State} {m : MethodId} {args : Array Value} {below : List Frame} {meth : Method} {c : Code} {D : va_G} {cA ad : Nat → Nat} {w : GW} {q : Int32} (C : gC p c cX0_sumOf meth m s args 4 (some .int) RX0 D cA ad shB) : ∀ (n : Nat) (x1 : Int32) (x2 : Int32) (x3 : Int32), f_X0_sumOf_4 w n x1 x2 x3 = some q → gW p l e (gRm 1 120) s m args below meth c D cA ad shB 4 0 0 (gQ below D cA ad shB (some (.int q)) w args s) 4 [(0, .ref 0), (1, .int x1), (2, .int x2), (3, .int x3)] [] w := by
  intro n
  induction n with
  | zero => intro _ _ _ hf; cases hf
  | succ n ih => intro x1 x2 x3 hf; exact Lb_X0_sumOf_4 C ih x1 x2 x3 hf
set_option maxHeartbeats 4000000 in
set_option maxRecDepth 100000 in
theorem c_X0_sumOf (l : Launch) (D : va_G) (cA ad : Nat → Nat) (hin : gInj ad shB.length) (w : GW) (x1 : Int32) (q : Int32) (hf : F_X0_sumOf w x1 = some q) : gMet l yX0_sumOf cX0_sumOf 4 (some .int) 1 120 D cA ad shB [.ref 0, .int x1] w (some (.int q)) w := by
  refine g_entry (by decide) hin (Nat.le_of_ble_eq_true rfl) ?_
  intro p e s m args below meth c C
  unfold F_X0_sumOf at hf
  show gW p l e (gRm 1 120) s m args below meth c D cA ad shB 4 0 0 (gQ below D cA ad shB (some (.int q)) w args s) 0 [(0, .ref 0), (1, .int x1)] [] w
  refine g_iconst C (gdec dt_X0_sumOf 0 rfl) ic_0 ?_
  refine g_istore_n C (gdec dt_X0_sumOf 1 rfl) (i := 2) rfl (by decide) (lo2 := [(2, .int (0 : Int32)), (0, .ref 0), (1, .int x1)]) rfl ?_
  refine g_iconst C (gdec dt_X0_sumOf 2 rfl) ic_0 ?_
  refine g_istore_n C (gdec dt_X0_sumOf 3 rfl) (i := 3) rfl (by decide) (lo2 := [(3, .int (0 : Int32)), (2, .int (0 : Int32)), (0, .ref 0), (1, .int x1)]) rfl ?_
  refine g_sub [2, 3, 1, 0] (lo2 := [(0, .ref 0), (1, .int x1), (2, .int (0 : Int32)), (3, .int (0 : Int32))]) rfl ?_
  exact L_X0_sumOf_4 C FU x1 (0 : Int32) (0 : Int32) hf
set_option maxHeartbeats 4000000 in
set_option maxRecDepth 100000 in
theorem L_X0_payComing_109 {p : Program} {l : Launch} {e : Env} {s : State} {m : MethodId} {args : Array Value} {below : List Frame} {meth : Method} {c : Code} {D : va_G} {cA ad : Nat → Nat} {q : (Int32 × GW)} (C : gC p c cX0_payComing meth m s args 5 (some .int) RX0 D cA ad shB) {k19 : Int32 → Int32 → Int32 → Int32 → GW → Option (Int32 × GW)} (hk19 : ∀ (x1 : Int32) (x2 : Int32) (x3 : Int32) (x4 : Int32) (w : GW), k19 x1 x2 x3 x4 w = some q → gW p l e (gRm 2 147) s m args below meth c D cA ad shB 5 0 0 (gQ below D cA ad shB (some (.int q.1)) q.2 args s) 19 [(0, .ref 0), (1, .int x1), (2, .int x2), (3, .int x3), (4, .int x4)] [] w) (x1 : Int32) (x2 : Int32) (x3 : Int32) (x4 : Int32) (w : GW) (hf : f_X0_payComing_109 k19 x1 x2 x3 x4 w = some q) : gW p l e (gRm 2 147) s m args below meth c D cA ad shB 5 0 0 (gQ below D cA ad shB (some (.int q.1)) q.2 args s) 109 [(0, .ref 0), (1, .int x1), (2, .int x2), (3, .int x3), (4, .int x4)] [] w := by
  unfold f_X0_payComing_109 at hf
  refine g_iinc C (gdec dt_X0_payComing 65 rfl) (kk := 4) rfl (v := (x4 + (1 : Int32))) rfl (by decide) (lo2 := [(4, .int (x4 + (1 : Int32))), (0, .ref 0), (1, .int x1), (2, .int x2), (3, .int x3)]) rfl ?_
  refine g_goto C (tgt := 19) (gdec dt_X0_payComing 66 rfl) (by decide) ?_
  refine g_sub [1, 2, 3, 4, 0] (lo2 := [(0, .ref 0), (1, .int x1), (2, .int x2), (3, .int x3), (4, .int (x4 + (1 : Int32)))]) rfl ?_
  exact hk19 x1 x2 x3 (x4 + (1 : Int32)) w hf
set_option maxHeartbeats 4000000 in
set_option maxRecDepth 100000 in
theorem L_X0_payComing_80 {p : Program} {l : Launch} {e : Env} {s : State} {m : MethodId} {args : Array Value} {below : List Frame} {meth : Method} {c : Code} {D : va_G} {cA ad : Nat → Nat} {q : (Int32 × GW)} (C : gC p c cX0_payComing meth m s args 5 (some .int) RX0 D cA ad shB) {k19 : Int32 → Int32 → Int32 → Int32 → GW → Option (Int32 × GW)} (hk19 : ∀ (x1 : Int32) (x2 : Int32) (x3 : Int32) (x4 : Int32) (w : GW), k19 x1 x2 x3 x4 w = some q → gW p l e (gRm 2 147) s m args below meth c D cA ad shB 5 0 0 (gQ below D cA ad shB (some (.int q.1)) q.2 args s) 19 [(0, .ref 0), (1, .int x1), (2, .int x2), (3, .int x3), (4, .int x4)] [] w) (x1 : Int32) (x2 : Int32) (x3 : Int32) (x4 : Int32) (w : GW) (hf : f_X0_payComing_80 k19 x1 x2 x3 x4 w = some q) : gW p l e (gRm 2 147) s m args below meth c D cA ad shB 5 0 0 (gQ below D cA ad shB (some (.int q.1)) q.2 args s) 80 [(0, .ref 0), (1, .int x1), (2, .int x2), (3, .int x3), (4, .int x4)] [] w := by
  unfold f_X0_payComing_80 at hf
  refine g_aload_n C (gdec dt_X0_payComing 48 rfl) (i := 0) rfl rfl ?_
  refine g_getr C (j := 11) kf_X0_43 rfl rfl (gdec dt_X0_payComing 49 rfl) ?_
  refine g_iload_n C (gdec dt_X0_payComing 50 rfl) (i := 3) rfl rfl ?_
  refine g_aload_n C (gdec dt_X0_payComing 51 rfl) (i := 0) rfl rfl ?_
  refine g_getr C (j := 11) kf_X0_43 rfl rfl (gdec dt_X0_payComing 52 rfl) ?_
  refine g_iload C (gdec dt_X0_payComing 53 rfl) rfl ?_
  obtain ⟨hg7, hf⟩ := gif hf
  refine g_iald C (i := 11) rfl hg7 rfl (gdec dt_X0_payComing 54 rfl) ?_
  obtain ⟨hg8, hf⟩ := gif hf
  refine g_iast C (i := 11) rfl hg8 rfl (gdec dt_X0_payComing 55 rfl) ?_
  refine g_aload_n C (gdec dt_X0_payComing 56 rfl) (i := 0) rfl rfl ?_
  refine g_getr C (j := 12) kf_X0_46 rfl rfl (gdec dt_X0_payComing 57 rfl) ?_
  refine g_iload_n C (gdec dt_X0_payComing 58 rfl) (i := 3) rfl rfl ?_
  refine g_aload_n C (gdec dt_X0_payComing 59 rfl) (i := 0) rfl rfl ?_
  refine g_getr C (j := 12) kf_X0_46 rfl rfl (gdec dt_X0_payComing 60 rfl) ?_
  refine g_iload C (gdec dt_X0_payComing 61 rfl) rfl ?_
  refine g_iald C (i := 12) rfl hg7 rfl (gdec dt_X0_payComing 62 rfl) ?_
  refine g_iast C (i := 12) rfl hg8 rfl (gdec dt_X0_payComing 63 rfl) ?_
  refine g_iinc C (gdec dt_X0_payComing 64 rfl) (kk := 3) rfl (v := (x3 + (1 : Int32))) rfl (by decide) (lo2 := [(3, .int (x3 + (1 : Int32))), (0, .ref 0), (1, .int x1), (2, .int x2), (4, .int x4)]) rfl ?_
  refine g_sub [1, 2, 3, 0, 4] (lo2 := [(0, .ref 0), (1, .int x1), (2, .int x2), (3, .int (x3 + (1 : Int32))), (4, .int x4)]) rfl ?_
  exact L_X0_payComing_109 C hk19 x1 x2 (x3 + (1 : Int32)) x4 (gI (gI w 11 x3.toNatClampNeg (w.1 11 x4.toNatClampNeg)) 12 x3.toNatClampNeg (w.1 12 x4.toNatClampNeg)) hf
set_option maxHeartbeats 4000000 in
set_option maxRecDepth 100000 in
theorem Lb_X0_payComing_19 {p : Program} {l : Launch} {e : Env} {s : State} {m : MethodId} {args : Array Value} {below : List Frame} {meth : Method} {c : Code} {D : va_G} {cA ad : Nat → Nat} {q : (Int32 × GW)} (C : gC p c cX0_payComing meth m s args 5 (some .int) RX0 D cA ad shB) {k19 : Int32 → Int32 → Int32 → Int32 → GW → Option (Int32 × GW)} (hk19 : ∀ (x1 : Int32) (x2 : Int32) (x3 : Int32) (x4 : Int32) (w : GW), k19 x1 x2 x3 x4 w = some q → gW p l e (gRm 2 147) s m args below meth c D cA ad shB 5 0 0 (gQ below D cA ad shB (some (.int q.1)) q.2 args s) 19 [(0, .ref 0), (1, .int x1), (2, .int x2), (3, .int x3), (4, .int x4)] [] w) (x1 : Int32) (x2 : Int32) (x3 : Int32) (x4 : Int32) (w : GW) (hf : b_X0_payComing_19 k19 x1 x2 x3 x4 w = some q) : gW p l e (gRm 2 147) s m args below meth c D cA ad shB 5 0 0 (gQ below D cA ad shB (some (.int q.1)) q.2 args s) 19 [(0, .ref 0), (1, .int x1), (2, .int x2), (3, .int x3), (4, .int x4)] [] w := by
  unfold b_X0_payComing_19 at hf
  refine g_iload C (gdec dt_X0_payComing 14 rfl) rfl ?_
  refine g_aload_n C (gdec dt_X0_payComing 15 rfl) (i := 0) rfl rfl ?_
  refine g_geti C kf_X0_71 rfl rfl (gdec dt_X0_payComing 16 rfl) ?_
  refine g_icmp_ge C (tgt := 115) (gdec dt_X0_payComing 17 rfl) (by decide) (fun hc3 => ?_) (fun hc3 => ?_)
  · have hf := (if_pos hc3).symm.trans hf
    refine g_aload_n C (gdec dt_X0_payComing 67 rfl) (i := 0) rfl rfl ?_
    refine g_iload_n C (gdec dt_X0_payComing 68 rfl) (i := 3) rfl rfl ?_
    refine g_puti C kf_X0_71 rfl rfl (gdec dt_X0_payComing 69 rfl) ?_
    refine g_iload_n C (gdec dt_X0_payComing 70 rfl) (i := 2) rfl rfl ?_
    cases hf
    exact g_iret C rfl (gdec dt_X0_payComing 71 rfl)
  · have hf := (if_neg hc3).symm.trans hf
    refine g_iload_n C (gdec dt_X0_payComing 18 rfl) (i := 1) rfl rfl ?_
    refine g_iconst C (gdec dt_X0_payComing 19 rfl) ic_1 ?_
    refine g_iload C (gdec dt_X0_payComing 20 rfl) rfl ?_
    refine g_ishl C (gdec dt_X0_payComing 21 rfl) ?_
    refine g_iand C (gdec dt_X0_payComing 22 rfl) ?_
    refine g_if_eq C (tgt := 80) (gdec dt_X0_payComing 23 rfl) (by decide) (fun hc4 => ?_) (fun hc4 => ?_)
    · have hf := (if_pos hc4).symm.trans hf
      refine g_sub [0, 1, 2, 3, 4] (lo2 := [(0, .ref 0), (1, .int x1), (2, .int x2), (3, .int x3), (4, .int x4)]) rfl ?_
      exact L_X0_payComing_80 C hk19 x1 x2 x3 x4 w hf
    · have hf := (if_neg hc4).symm.trans hf
      refine g_aload_n C (gdec dt_X0_payComing 24 rfl) (i := 0) rfl rfl ?_
      refine g_getr C (j := 11) kf_X0_43 rfl rfl (gdec dt_X0_payComing 25 rfl) ?_
      refine g_iload C (gdec dt_X0_payComing 26 rfl) rfl ?_
      obtain ⟨hg5, hf⟩ := gif hf
      refine g_iald C (i := 11) rfl hg5 rfl (gdec dt_X0_payComing 27 rfl) ?_
      refine g_aload_n C (gdec dt_X0_payComing 28 rfl) (i := 0) rfl rfl ?_
      refine g_geti C kf_X0_56 rfl rfl (gdec dt_X0_payComing 29 rfl) ?_
      refine g_icmp_gt C (tgt := 80) (gdec dt_X0_payComing 30 rfl) (by decide) (fun hc6 => ?_) (fun hc6 => ?_)
      · have hf := (if_pos hc6).symm.trans hf
        refine g_sub [0, 1, 2, 3, 4] (lo2 := [(0, .ref 0), (1, .int x1), (2, .int x2), (3, .int x3), (4, .int x4)]) rfl ?_
        exact L_X0_payComing_80 C hk19 x1 x2 x3 x4 w hf
      · have hf := (if_neg hc6).symm.trans hf
        refine g_aload_n C (gdec dt_X0_payComing 31 rfl) (i := 0) rfl rfl ?_
        refine g_dup C (gdec dt_X0_payComing 32 rfl) rfl ?_
        refine g_geti C kf_X0_56 rfl rfl (gdec dt_X0_payComing 33 rfl) ?_
        refine g_aload_n C (gdec dt_X0_payComing 34 rfl) (i := 0) rfl rfl ?_
        refine g_getr C (j := 11) kf_X0_43 rfl rfl (gdec dt_X0_payComing 35 rfl) ?_
        refine g_iload C (gdec dt_X0_payComing 36 rfl) rfl ?_
        refine g_iald C (i := 11) rfl hg5 rfl (gdec dt_X0_payComing 37 rfl) ?_
        refine g_isub C (gdec dt_X0_payComing 38 rfl) ?_
        refine g_puti C kf_X0_56 rfl rfl (gdec dt_X0_payComing 39 rfl) ?_
        refine g_iload_n C (gdec dt_X0_payComing 40 rfl) (i := 2) rfl rfl ?_
        refine g_aload_n C (gdec dt_X0_payComing 41 rfl) (i := 0) rfl rfl ?_
        refine g_getr C (j := 11) kf_X0_43 rfl rfl (gdec dt_X0_payComing 42 rfl) ?_
        refine g_iload C (gdec dt_X0_payComing 43 rfl) rfl ?_
        refine g_iald C (i := 11) rfl hg5 rfl (gdec dt_X0_payComing 44 rfl) ?_
        refine g_iadd C (gdec dt_X0_payComing 45 rfl) ?_
        refine g_istore_n C (gdec dt_X0_payComing 46 rfl) (i := 2) rfl (by decide) (lo2 := [(2, .int (x2 + (w.1 11 x4.toNatClampNeg))), (0, .ref 0), (1, .int x1), (3, .int x3), (4, .int x4)]) rfl ?_
        refine g_goto C (tgt := 109) (gdec dt_X0_payComing 47 rfl) (by decide) ?_
        refine g_sub [1, 2, 0, 3, 4] (lo2 := [(0, .ref 0), (1, .int x1), (2, .int (x2 + (w.1 11 x4.toNatClampNeg))), (3, .int x3), (4, .int x4)]) rfl ?_
        exact L_X0_payComing_109 C hk19 x1 (x2 + (w.1 11 x4.toNatClampNeg)) x3 x4 (gI w 0 1 ((w.1 0 1) - (w.1 11 x4.toNatClampNeg))) hf
theorem L_X0_payComing_19 {p : Program} {l : Launch} {e : Env} {s : State} {m : MethodId} {args : Array Value} {below : List Frame} {meth : Method} {c : Code} {D : va_G} {cA ad : Nat → Nat} {q : (Int32 × GW)} (C : gC p c cX0_payComing meth m s args 5 (some .int) RX0 D cA ad shB) : ∀ (n : Nat) (x1 : Int32) (x2 : Int32) (x3 : Int32) (x4 : Int32) (w : GW), f_X0_payComing_19 n x1 x2 x3 x4 w = some q → gW p l e (gRm 2 147) s m args below meth c D cA ad shB 5 0 0 (gQ below D cA ad shB (some (.int q.1)) q.2 args s) 19 [(0, .ref 0), (1, .int x1), (2, .int x2), (3, .int x3), (4, .int x4)] [] w := by
  intro n
  induction n with
  | zero => intro _ _ _ _ _ hf; cases hf
  | succ n ih => intro x1 x2 x3 x4 w hf; exact Lb_X0_payComing_19 C ih x1 x2 x3 x4 w hf
set_option maxHeartbeats 4000000 in
set_option maxRecDepth 100000 in
theorem c_X0_payComing (l : Launch) (D : va_G) (cA ad : Nat → Nat) (hin : gInj ad shB.length) (w : GW) (q : (Int32 × GW)) (hf : F_X0_payComing w = some q) : gMet l yX0_payComing cX0_payComing 5 (some .int) 2 147 D cA ad shB [.ref 0] w (some (.int q.1)) q.2 := by
  refine g_entry (by decide) hin (Nat.le_of_ble_eq_true rfl) ?_
  intro p e s m args below meth c C
  unfold F_X0_payComing at hf
  show gW p l e (gRm 2 147) s m args below meth c D cA ad shB 5 0 0 (gQ below D cA ad shB (some (.int q.1)) q.2 args s) 0 [(0, .ref 0)] [] w
  refine g_aload_n C (gdec dt_X0_payComing 0 rfl) (i := 0) rfl rfl ?_
  refine g_iconst C (gdec dt_X0_payComing 1 rfl) ic_0 ?_
  obtain ⟨q1, hq1, hf⟩ := Option.bind_eq_some_iff.mp hf
  refine g_invV [.int (0 : Int32)] [] C (c_X0_comingWithout l D cA _ (gCi C) w (0 : Int32) q1 hq1) kT_X0_comingWithout kl_X0_131 kim_X0_comingWithout kse_X0_comingWithout rfl rfl (i := 0) rfl rfl ⟨by decide, by decide⟩ gk0 (Nat.le_of_ble_eq_true rfl) (gdec dt_X0_payComing 2 rfl) rfl (st2 := [.int q1]) rfl ?_
  refine g_istore_n C (gdec dt_X0_payComing 3 rfl) (i := 1) rfl (by decide) (lo2 := [(1, .int q1), (0, .ref 0)]) rfl ?_
  refine g_iload_n C (gdec dt_X0_payComing 4 rfl) (i := 1) rfl rfl ?_
  refine g_if_ne C (tgt := 12) (gdec dt_X0_payComing 5 rfl) (by decide) (fun hc2 => ?_) (fun hc2 => ?_)
  · have hf := (if_neg hc2).symm.trans hf
    refine g_iconst C (gdec dt_X0_payComing 8 rfl) ic_0 ?_
    refine g_istore_n C (gdec dt_X0_payComing 9 rfl) (i := 2) rfl (by decide) (lo2 := [(2, .int (0 : Int32)), (1, .int q1), (0, .ref 0)]) rfl ?_
    refine g_iconst C (gdec dt_X0_payComing 10 rfl) ic_0 ?_
    refine g_istore_n C (gdec dt_X0_payComing 11 rfl) (i := 3) rfl (by decide) (lo2 := [(3, .int (0 : Int32)), (2, .int (0 : Int32)), (1, .int q1), (0, .ref 0)]) rfl ?_
    refine g_iconst C (gdec dt_X0_payComing 12 rfl) ic_0 ?_
    refine g_istore C (gdec dt_X0_payComing 13 rfl) (by decide) (lo2 := [(4, .int (0 : Int32)), (3, .int (0 : Int32)), (2, .int (0 : Int32)), (1, .int q1), (0, .ref 0)]) rfl ?_
    refine g_sub [4, 3, 2, 1, 0] (lo2 := [(0, .ref 0), (1, .int q1), (2, .int (0 : Int32)), (3, .int (0 : Int32)), (4, .int (0 : Int32))]) rfl ?_
    exact L_X0_payComing_19 C FU q1 (0 : Int32) (0 : Int32) (0 : Int32) w hf
  · have hf := (if_pos hc2).symm.trans hf
    refine g_iconst C (gdec dt_X0_payComing 6 rfl) ic_m1 ?_
    cases hf
    exact g_iret C rfl (gdec dt_X0_payComing 7 rfl)
set_option maxHeartbeats 4000000 in
set_option maxRecDepth 100000 in
theorem c_J6_bitCount_0f7a4 (l : Launch) (D : va_G) (cA ad : Nat → Nat) (hin : gInj ad shE.length) (w : GW) (x0 : Int32) (q : Int32) (hf : F_J6_bitCount_0f7a4 x0 = some q) : gMet l yJ6_bitCount_0f7a4 cJ6_bitCount_0f7a4 1 (some .int) 1 120 D cA ad shE [.int x0] w (some (.int q)) w := by
  refine g_entry (by decide) hin (Nat.le_of_ble_eq_true rfl) ?_
  intro p e s m args below meth c C
  unfold F_J6_bitCount_0f7a4 at hf
  show gW p l e (gRm 1 120) s m args below meth c D cA ad shE 1 0 0 (gQ below D cA ad shE (some (.int q)) w args s) 0 [(0, .int x0)] [] w
  refine g_iload_n C (gdec dt_J6_bitCount_0f7a4 0 rfl) (i := 0) rfl rfl ?_
  refine g_iload_n C (gdec dt_J6_bitCount_0f7a4 1 rfl) (i := 0) rfl rfl ?_
  refine g_iconst C (gdec dt_J6_bitCount_0f7a4 2 rfl) ic_1 ?_
  refine g_iushr C (gdec dt_J6_bitCount_0f7a4 3 rfl) ?_
  refine g_ldcw C kk_J6_265 (gdec dt_J6_bitCount_0f7a4 4 rfl) ?_
  refine g_iand C (gdec dt_J6_bitCount_0f7a4 5 rfl) ?_
  refine g_isub C (gdec dt_J6_bitCount_0f7a4 6 rfl) ?_
  refine g_istore_n C (gdec dt_J6_bitCount_0f7a4 7 rfl) (i := 0) rfl (by decide) (lo2 := [(0, .int (x0 - (((x0.toUInt32 >>> ((1 : Int32).toUInt32 &&& Int32.toUInt32 31)).toInt32) &&& (1431655765 : Int32))))]) rfl ?_
  refine g_iload_n C (gdec dt_J6_bitCount_0f7a4 8 rfl) (i := 0) rfl rfl ?_
  refine g_ldcw C kk_J6_266 (gdec dt_J6_bitCount_0f7a4 9 rfl) ?_
  refine g_iand C (gdec dt_J6_bitCount_0f7a4 10 rfl) ?_
  refine g_iload_n C (gdec dt_J6_bitCount_0f7a4 11 rfl) (i := 0) rfl rfl ?_
  refine g_iconst C (gdec dt_J6_bitCount_0f7a4 12 rfl) ic_2 ?_
  refine g_iushr C (gdec dt_J6_bitCount_0f7a4 13 rfl) ?_
  refine g_ldcw C kk_J6_266 (gdec dt_J6_bitCount_0f7a4 14 rfl) ?_
  refine g_iand C (gdec dt_J6_bitCount_0f7a4 15 rfl) ?_
  refine g_iadd C (gdec dt_J6_bitCount_0f7a4 16 rfl) ?_
  refine g_istore_n C (gdec dt_J6_bitCount_0f7a4 17 rfl) (i := 0) rfl (by decide) (lo2 := [(0, .int (((x0 - (((x0.toUInt32 >>> ((1 : Int32).toUInt32 &&& Int32.toUInt32 31)).toInt32) &&& (1431655765 : Int32))) &&& (858993459 : Int32)) + ((((x0 - (((x0.toUInt32 >>> ((1 : Int32).toUInt32 &&& Int32.toUInt32 31)).toInt32) &&& (1431655765 : Int32))).toUInt32 >>> ((2 : Int32).toUInt32 &&& Int32.toUInt32 31)).toInt32) &&& (858993459 : Int32))))]) rfl ?_
  refine g_iload_n C (gdec dt_J6_bitCount_0f7a4 18 rfl) (i := 0) rfl rfl ?_
  refine g_iload_n C (gdec dt_J6_bitCount_0f7a4 19 rfl) (i := 0) rfl rfl ?_
  refine g_iconst C (gdec dt_J6_bitCount_0f7a4 20 rfl) ic_4 ?_
  refine g_iushr C (gdec dt_J6_bitCount_0f7a4 21 rfl) ?_
  refine g_iadd C (gdec dt_J6_bitCount_0f7a4 22 rfl) ?_
  refine g_ldcw C kk_J6_267 (gdec dt_J6_bitCount_0f7a4 23 rfl) ?_
  refine g_iand C (gdec dt_J6_bitCount_0f7a4 24 rfl) ?_
  refine g_istore_n C (gdec dt_J6_bitCount_0f7a4 25 rfl) (i := 0) rfl (by decide) (lo2 := [(0, .int (((((x0 - (((x0.toUInt32 >>> ((1 : Int32).toUInt32 &&& Int32.toUInt32 31)).toInt32) &&& (1431655765 : Int32))) &&& (858993459 : Int32)) + ((((x0 - (((x0.toUInt32 >>> ((1 : Int32).toUInt32 &&& Int32.toUInt32 31)).toInt32) &&& (1431655765 : Int32))).toUInt32 >>> ((2 : Int32).toUInt32 &&& Int32.toUInt32 31)).toInt32) &&& (858993459 : Int32))) + (((((x0 - (((x0.toUInt32 >>> ((1 : Int32).toUInt32 &&& Int32.toUInt32 31)).toInt32) &&& (1431655765 : Int32))) &&& (858993459 : Int32)) + ((((x0 - (((x0.toUInt32 >>> ((1 : Int32).toUInt32 &&& Int32.toUInt32 31)).toInt32) &&& (1431655765 : Int32))).toUInt32 >>> ((2 : Int32).toUInt32 &&& Int32.toUInt32 31)).toInt32) &&& (858993459 : Int32))).toUInt32 >>> ((4 : Int32).toUInt32 &&& Int32.toUInt32 31)).toInt32)) &&& (252645135 : Int32)))]) rfl ?_
  refine g_iload_n C (gdec dt_J6_bitCount_0f7a4 26 rfl) (i := 0) rfl rfl ?_
  refine g_iload_n C (gdec dt_J6_bitCount_0f7a4 27 rfl) (i := 0) rfl rfl ?_
  refine g_bipush C (gdec dt_J6_bitCount_0f7a4 28 rfl) bc_8 ?_
  refine g_iushr C (gdec dt_J6_bitCount_0f7a4 29 rfl) ?_
  refine g_iadd C (gdec dt_J6_bitCount_0f7a4 30 rfl) ?_
  refine g_istore_n C (gdec dt_J6_bitCount_0f7a4 31 rfl) (i := 0) rfl (by decide) (lo2 := [(0, .int ((((((x0 - (((x0.toUInt32 >>> ((1 : Int32).toUInt32 &&& Int32.toUInt32 31)).toInt32) &&& (1431655765 : Int32))) &&& (858993459 : Int32)) + ((((x0 - (((x0.toUInt32 >>> ((1 : Int32).toUInt32 &&& Int32.toUInt32 31)).toInt32) &&& (1431655765 : Int32))).toUInt32 >>> ((2 : Int32).toUInt32 &&& Int32.toUInt32 31)).toInt32) &&& (858993459 : Int32))) + (((((x0 - (((x0.toUInt32 >>> ((1 : Int32).toUInt32 &&& Int32.toUInt32 31)).toInt32) &&& (1431655765 : Int32))) &&& (858993459 : Int32)) + ((((x0 - (((x0.toUInt32 >>> ((1 : Int32).toUInt32 &&& Int32.toUInt32 31)).toInt32) &&& (1431655765 : Int32))).toUInt32 >>> ((2 : Int32).toUInt32 &&& Int32.toUInt32 31)).toInt32) &&& (858993459 : Int32))).toUInt32 >>> ((4 : Int32).toUInt32 &&& Int32.toUInt32 31)).toInt32)) &&& (252645135 : Int32)) + (((((((x0 - (((x0.toUInt32 >>> ((1 : Int32).toUInt32 &&& Int32.toUInt32 31)).toInt32) &&& (1431655765 : Int32))) &&& (858993459 : Int32)) + ((((x0 - (((x0.toUInt32 >>> ((1 : Int32).toUInt32 &&& Int32.toUInt32 31)).toInt32) &&& (1431655765 : Int32))).toUInt32 >>> ((2 : Int32).toUInt32 &&& Int32.toUInt32 31)).toInt32) &&& (858993459 : Int32))) + (((((x0 - (((x0.toUInt32 >>> ((1 : Int32).toUInt32 &&& Int32.toUInt32 31)).toInt32) &&& (1431655765 : Int32))) &&& (858993459 : Int32)) + ((((x0 - (((x0.toUInt32 >>> ((1 : Int32).toUInt32 &&& Int32.toUInt32 31)).toInt32) &&& (1431655765 : Int32))).toUInt32 >>> ((2 : Int32).toUInt32 &&& Int32.toUInt32 31)).toInt32) &&& (858993459 : Int32))).toUInt32 >>> ((4 : Int32).toUInt32 &&& Int32.toUInt32 31)).toInt32)) &&& (252645135 : Int32)).toUInt32 >>> ((8 : Int32).toUInt32 &&& Int32.toUInt32 31)).toInt32)))]) rfl ?_
  refine g_iload_n C (gdec dt_J6_bitCount_0f7a4 32 rfl) (i := 0) rfl rfl ?_
  refine g_iload_n C (gdec dt_J6_bitCount_0f7a4 33 rfl) (i := 0) rfl rfl ?_
  refine g_bipush C (gdec dt_J6_bitCount_0f7a4 34 rfl) bc_16 ?_
  refine g_iushr C (gdec dt_J6_bitCount_0f7a4 35 rfl) ?_
  refine g_iadd C (gdec dt_J6_bitCount_0f7a4 36 rfl) ?_
  refine g_istore_n C (gdec dt_J6_bitCount_0f7a4 37 rfl) (i := 0) rfl (by decide) (lo2 := [(0, .int (((((((x0 - (((x0.toUInt32 >>> ((1 : Int32).toUInt32 &&& Int32.toUInt32 31)).toInt32) &&& (1431655765 : Int32))) &&& (858993459 : Int32)) + ((((x0 - (((x0.toUInt32 >>> ((1 : Int32).toUInt32 &&& Int32.toUInt32 31)).toInt32) &&& (1431655765 : Int32))).toUInt32 >>> ((2 : Int32).toUInt32 &&& Int32.toUInt32 31)).toInt32) &&& (858993459 : Int32))) + (((((x0 - (((x0.toUInt32 >>> ((1 : Int32).toUInt32 &&& Int32.toUInt32 31)).toInt32) &&& (1431655765 : Int32))) &&& (858993459 : Int32)) + ((((x0 - (((x0.toUInt32 >>> ((1 : Int32).toUInt32 &&& Int32.toUInt32 31)).toInt32) &&& (1431655765 : Int32))).toUInt32 >>> ((2 : Int32).toUInt32 &&& Int32.toUInt32 31)).toInt32) &&& (858993459 : Int32))).toUInt32 >>> ((4 : Int32).toUInt32 &&& Int32.toUInt32 31)).toInt32)) &&& (252645135 : Int32)) + (((((((x0 - (((x0.toUInt32 >>> ((1 : Int32).toUInt32 &&& Int32.toUInt32 31)).toInt32) &&& (1431655765 : Int32))) &&& (858993459 : Int32)) + ((((x0 - (((x0.toUInt32 >>> ((1 : Int32).toUInt32 &&& Int32.toUInt32 31)).toInt32) &&& (1431655765 : Int32))).toUInt32 >>> ((2 : Int32).toUInt32 &&& Int32.toUInt32 31)).toInt32) &&& (858993459 : Int32))) + (((((x0 - (((x0.toUInt32 >>> ((1 : Int32).toUInt32 &&& Int32.toUInt32 31)).toInt32) &&& (1431655765 : Int32))) &&& (858993459 : Int32)) + ((((x0 - (((x0.toUInt32 >>> ((1 : Int32).toUInt32 &&& Int32.toUInt32 31)).toInt32) &&& (1431655765 : Int32))).toUInt32 >>> ((2 : Int32).toUInt32 &&& Int32.toUInt32 31)).toInt32) &&& (858993459 : Int32))).toUInt32 >>> ((4 : Int32).toUInt32 &&& Int32.toUInt32 31)).toInt32)) &&& (252645135 : Int32)).toUInt32 >>> ((8 : Int32).toUInt32 &&& Int32.toUInt32 31)).toInt32)) + ((((((((x0 - (((x0.toUInt32 >>> ((1 : Int32).toUInt32 &&& Int32.toUInt32 31)).toInt32) &&& (1431655765 : Int32))) &&& (858993459 : Int32)) + ((((x0 - (((x0.toUInt32 >>> ((1 : Int32).toUInt32 &&& Int32.toUInt32 31)).toInt32) &&& (1431655765 : Int32))).toUInt32 >>> ((2 : Int32).toUInt32 &&& Int32.toUInt32 31)).toInt32) &&& (858993459 : Int32))) + (((((x0 - (((x0.toUInt32 >>> ((1 : Int32).toUInt32 &&& Int32.toUInt32 31)).toInt32) &&& (1431655765 : Int32))) &&& (858993459 : Int32)) + ((((x0 - (((x0.toUInt32 >>> ((1 : Int32).toUInt32 &&& Int32.toUInt32 31)).toInt32) &&& (1431655765 : Int32))).toUInt32 >>> ((2 : Int32).toUInt32 &&& Int32.toUInt32 31)).toInt32) &&& (858993459 : Int32))).toUInt32 >>> ((4 : Int32).toUInt32 &&& Int32.toUInt32 31)).toInt32)) &&& (252645135 : Int32)) + (((((((x0 - (((x0.toUInt32 >>> ((1 : Int32).toUInt32 &&& Int32.toUInt32 31)).toInt32) &&& (1431655765 : Int32))) &&& (858993459 : Int32)) + ((((x0 - (((x0.toUInt32 >>> ((1 : Int32).toUInt32 &&& Int32.toUInt32 31)).toInt32) &&& (1431655765 : Int32))).toUInt32 >>> ((2 : Int32).toUInt32 &&& Int32.toUInt32 31)).toInt32) &&& (858993459 : Int32))) + (((((x0 - (((x0.toUInt32 >>> ((1 : Int32).toUInt32 &&& Int32.toUInt32 31)).toInt32) &&& (1431655765 : Int32))) &&& (858993459 : Int32)) + ((((x0 - (((x0.toUInt32 >>> ((1 : Int32).toUInt32 &&& Int32.toUInt32 31)).toInt32) &&& (1431655765 : Int32))).toUInt32 >>> ((2 : Int32).toUInt32 &&& Int32.toUInt32 31)).toInt32) &&& (858993459 : Int32))).toUInt32 >>> ((4 : Int32).toUInt32 &&& Int32.toUInt32 31)).toInt32)) &&& (252645135 : Int32)).toUInt32 >>> ((8 : Int32).toUInt32 &&& Int32.toUInt32 31)).toInt32)).toUInt32 >>> ((16 : Int32).toUInt32 &&& Int32.toUInt32 31)).toInt32)))]) rfl ?_
  refine g_iload_n C (gdec dt_J6_bitCount_0f7a4 38 rfl) (i := 0) rfl rfl ?_
  refine g_bipush C (gdec dt_J6_bitCount_0f7a4 39 rfl) bc_63 ?_
  refine g_iand C (gdec dt_J6_bitCount_0f7a4 40 rfl) ?_
  cases hf
  exact g_iret C rfl (gdec dt_J6_bitCount_0f7a4 41 rfl)
