def tb_X6_readEnd : List (Nat × Jvm.ClassFile.Instr × Nat) := [(0, .aload_n 0, 1), (1, .getfield 15, 3), (4, .ifCond .le 11, 3), (7, .aload_n 0, 1), (8, .getfield 15, 3), (11, .iconst 3, 1), (12, .if_icmp .le 11, 3), (15, .aload_n 0, 1), (16, .getfield 19, 3), (19, .invokevirtual 55, 3), (22, .ireturn, 1), (23, .aload_n 0, 1), (24, .dup, 1), (25, .getfield 15, 3), (28, .iconst 1, 1), (29, .isub, 1), (30, .putfield 15, 3), (33, .aload_n 0, 1), (34, .getfield 27, 3), (37, .aload_n 0, 1), (38, .getfield 9, 3), (41, .aload_n 0, 1), (42, .getfield 15, 3), (45, .iaload, 1), (46, .invokevirtual 58, 3), (49, .aload_n 0, 1), (50, .getfield 19, 3), (53, .invokevirtual 62, 3), (56, .aload_n 0, 1), (57, .getfield 19, 3), (60, .invokevirtual 65, 3), (63, .ireturn, 1)]
set_option maxRecDepth 100000 in
theorem dt_X6_readEnd : ∀ q ∈ tb_X6_readEnd, decode cX6_readEnd q.1 = .ok q.2 := by decide +kernel
def tb_X6_put : List (Nat × Jvm.ClassFile.Instr × Nat) := [(0, .iload_n 1, 1), (1, .ifCond .lt 13, 3), (4, .iload_n 1, 1), (5, .aload_n 0, 1), (6, .arraylength, 1), (7, .if_icmp .ge 7, 3), (10, .aload_n 0, 1), (11, .iload_n 1, 1), (12, .iload_n 2, 1), (13, .iastore, 1), (14, .iconst 1, 1), (15, .ireturn, 1)]
set_option maxRecDepth 100000 in
theorem dt_X6_put : ∀ q ∈ tb_X6_put, decode cX6_put q.1 = .ok q.2 := by decide +kernel
def tb_X6_readMuch : List (Nat × Jvm.ClassFile.Instr × Nat) := [(0, .aload_n 0, 1), (1, .getfield 19, 3), (4, .iload_n 2, 1), (5, .iload_n 3, 1), (6, .invokevirtual 108, 3), (9, .ifCond .eq 28, 3), (12, .aload_n 0, 1), (13, .getfield 27, 3), (16, .getfield 111, 3), (19, .iload_n 1, 1), (20, .aload_n 0, 1), (21, .getfield 19, 3), (24, .invokevirtual 114, 3), (27, .invokestatic 118, 3), (30, .ifCond .eq 7, 3), (33, .iconst 1, 1), (34, .goto 4, 3), (37, .iconst 0, 1), (38, .ireturn, 1)]
set_option maxRecDepth 100000 in
theorem dt_X6_readMuch : ∀ q ∈ tb_X6_readMuch, decode cX6_readMuch q.1 = .ok q.2 := by decide +kernel
def tb_X6_readName : List (Nat × Jvm.ClassFile.Instr × Nat) := [(0, .aload_n 0, 1), (1, .getfield 19, 3), (4, .invokevirtual 122, 3), (7, .ifCond .ne 5, 3), (10, .iconst 0, 1), (11, .ireturn, 1), (12, .aload_n 0, 1), (13, .getfield 23, 3), (16, .aload_n 0, 1), (17, .getfield 19, 3), (20, .getfield 125, 3), (23, .invokevirtual 129, 3), (26, .istore_n 3, 1), (27, .iload_n 3, 1), (28, .iconst (-1), 1), (29, .if_icmp .ne 12, 3), (32, .aload_n 0, 1), (33, .getfield 19, 3), (36, .iconst 3, 1), (37, .invokevirtual 133, 3), (40, .ireturn, 1), (41, .aload_n 1, 1), (42, .iload_n 2, 1), (43, .iload_n 3, 1), (44, .invokestatic 118, 3), (47, .ireturn, 1)]
set_option maxRecDepth 100000 in
theorem dt_X6_readName : ∀ q ∈ tb_X6_readName, decode cX6_readName q.1 = .ok q.2 := by decide +kernel
def tb_X6_mostTested : List (Nat × Jvm.ClassFile.Instr × Nat) := [(0, .iload_n 0, 1), (1, .lookupswitch 32 #[(4, 27), (24, 29)], 27), (28, .iconst 5, 1), (29, .ireturn, 1), (30, .bipush 99, 2), (32, .ireturn, 1), (33, .sipush 9999, 3), (36, .ireturn, 1)]
set_option maxRecDepth 100000 in
theorem dt_X6_mostTested : ∀ q ∈ tb_X6_mostTested, decode cX6_mostTested q.1 = .ok q.2 := by decide +kernel
def tb_X6_readTest : List (Nat × Jvm.ClassFile.Instr × Nat) := [(0, .aload_n 0, 1), (1, .getfield 19, 3), (4, .getfield 41, 3), (7, .istore_n 2, 1), (8, .iload_n 2, 1), (9, .iconst 4, 1), (10, .if_icmp .eq 22, 3), (13, .iload_n 2, 1), (14, .bipush 24, 2), (16, .if_icmp .eq 16, 3), (19, .iload_n 2, 1), (20, .iconst 1, 1), (21, .if_icmp .eq 11, 3), (24, .aload_n 0, 1), (25, .getfield 19, 3), (28, .invokevirtual 55, 3), (31, .ireturn, 1), (32, .aload_n 0, 1), (33, .getfield 27, 3), (36, .getfield 136, 3), (39, .iload_n 1, 1), (40, .iload_n 2, 1), (41, .invokestatic 118, 3), (44, .pop, 1), (45, .aload_n 0, 1), (46, .getfield 19, 3), (49, .invokevirtual 62, 3), (52, .iload_n 2, 1), (53, .iconst 1, 1), (54, .if_icmp .eq 20, 3), (57, .aload_n 0, 1), (58, .aload_n 0, 1), (59, .getfield 27, 3), (62, .getfield 90, 3), (65, .iload_n 1, 1), (66, .invokevirtual 93, 3), (69, .ifCond .ne 5, 3), (72, .iconst 0, 1), (73, .ireturn, 1), (74, .aload_n 0, 1), (75, .getfield 19, 3), (78, .invokevirtual 139, 3), (81, .ifCond .ne 5, 3), (84, .iconst 0, 1), (85, .ireturn, 1), (86, .aload_n 0, 1), (87, .getfield 27, 3), (90, .getfield 142, 3), (93, .iload_n 1, 1), (94, .aload_n 0, 1), (95, .getfield 19, 3), (98, .invokevirtual 114, 3), (101, .invokestatic 118, 3), (104, .pop, 1), (105, .aload_n 0, 1), (106, .iload_n 1, 1), (107, .iconst 0, 1), (108, .iload_n 2, 1), (109, .invokestatic 145, 3), (112, .invokevirtual 86, 3), (115, .ireturn, 1)]
set_option maxRecDepth 100000 in
theorem dt_X6_readTest : ∀ q ∈ tb_X6_readTest, decode cX6_readTest q.1 = .ok q.2 := by decide +kernel
def tb_X6_readRest : List (Nat × Jvm.ClassFile.Instr × Nat) := [(0, .iload_n 1, 1), (1, .tableswitch 203 15 25 #[59, 68, 107, 143, 175, 175, 203, 203, 188, 203, 194], 59), (60, .aload_n 0, 1), (61, .iload_n 2, 1), (62, .iconst 1, 1), (63, .bipush 20, 2), (65, .invokevirtual 86, 3), (68, .ireturn, 1), (69, .aload_n 0, 1), (70, .aload_n 0, 1), (71, .getfield 27, 3), (74, .getfield 90, 3), (77, .iload_n 2, 1), (78, .invokevirtual 93, 3), (81, .ifCond .eq 25, 3), (84, .aload_n 0, 1), (85, .iload_n 2, 1), (86, .iconst 0, 1), (87, .aload_n 0, 1), (88, .getfield 23, 3), (91, .getfield 97, 3), (94, .iconst 1, 1), (95, .isub, 1), (96, .invokevirtual 86, 3), (99, .ifCond .eq 7, 3), (102, .iconst 1, 1), (103, .goto 4, 3), (106, .iconst 0, 1), (107, .ireturn, 1), (108, .aload_n 0, 1), (109, .aload_n 0, 1), (110, .getfield 27, 3), (113, .getfield 90, 3), (116, .iload_n 2, 1), (117, .invokevirtual 93, 3), (120, .ifCond .eq 22, 3), (123, .aload_n 0, 1), (124, .aload_n 0, 1), (125, .getfield 27, 3), (128, .getfield 102, 3), (131, .iload_n 2, 1), (132, .invokevirtual 93, 3), (135, .ifCond .eq 7, 3), (138, .iconst 1, 1), (139, .goto 4, 3), (142, .iconst 0, 1), (143, .ireturn, 1), (144, .aload_n 0, 1), (145, .aload_n 0, 1), (146, .getfield 27, 3), (149, .getfield 90, 3), (152, .iload_n 2, 1), (153, .invokevirtual 93, 3), (156, .ifCond .eq 18, 3), (159, .aload_n 0, 1), (160, .iload_n 2, 1), (161, .iconst 1, 1), (162, .bipush 50, 2), (164, .invokevirtual 86, 3), (167, .ifCond .eq 7, 3), (170, .iconst 1, 1), (171, .goto 4, 3), (174, .iconst 0, 1), (175, .ireturn, 1), (176, .aload_n 0, 1), (177, .aload_n 0, 1), (178, .getfield 27, 3), (181, .getfield 90, 3), (184, .iload_n 2, 1), (185, .invokevirtual 93, 3), (188, .ireturn, 1), (189, .aload_n 0, 1), (190, .iload_n 2, 1), (191, .invokevirtual 105, 3), (194, .ireturn, 1), (195, .aload_n 0, 1), (196, .iload_n 2, 1), (197, .iconst 1, 1), (198, .bipush 99, 2), (200, .invokevirtual 86, 3), (203, .ireturn, 1), (204, .iconst 1, 1), (205, .ireturn, 1)]
set_option maxRecDepth 100000 in
theorem dt_X6_readRest : ∀ q ∈ tb_X6_readRest, decode cX6_readRest q.1 = .ok q.2 := by decide +kernel
def tb_X6_readStep : List (Nat × Jvm.ClassFile.Instr × Nat) := [(0, .aload_n 0, 1), (1, .getfield 19, 3), (4, .getfield 41, 3), (7, .istore_n 1, 1), (8, .iload_n 1, 1), (9, .bipush 23, 2), (11, .if_icmp .eq 9, 3), (14, .iload_n 1, 1), (15, .bipush 25, 2), (17, .if_icmp .ne 7, 3), (20, .iconst 1, 1), (21, .goto 4, 3), (24, .iconst 0, 1), (25, .istore_n 2, 1), (26, .iload_n 1, 1), (27, .bipush 15, 2), (29, .if_icmp .lt 9, 3), (32, .iload_n 1, 1), (33, .bipush 24, 2), (35, .if_icmp .ne 11, 3), (38, .aload_n 0, 1), (39, .getfield 19, 3), (42, .invokevirtual 55, 3), (45, .ireturn, 1), (46, .aload_n 0, 1), (47, .getfield 27, 3), (50, .getfield 68, 3), (53, .bipush 30, 2), (55, .if_icmp .lt 13, 3), (58, .aload_n 0, 1), (59, .getfield 19, 3), (62, .bipush 6, 2), (64, .invokevirtual 71, 3), (67, .ireturn, 1), (68, .iload_n 2, 1), (69, .ifCond .eq 21, 3), (72, .aload_n 0, 1), (73, .getfield 15, 3), (76, .iconst 3, 1), (77, .if_icmp .lt 13, 3), (80, .aload_n 0, 1), (81, .getfield 19, 3), (84, .bipush 7, 2), (86, .invokevirtual 71, 3), (89, .ireturn, 1), (90, .aload_n 0, 1), (91, .getfield 27, 3), (94, .iload_n 1, 1), (95, .invokevirtual 75, 3), (98, .istore_n 3, 1), (99, .iload_n 2, 1), (100, .ifCond .eq 30, 3), (103, .aload_n 0, 1), (104, .getfield 15, 3), (107, .ifCond .lt 23, 3), (110, .aload_n 0, 1), (111, .getfield 9, 3), (114, .aload_n 0, 1), (115, .getfield 15, 3), (118, .iload_n 3, 1), (119, .iastore, 1), (120, .aload_n 0, 1), (121, .dup, 1), (122, .getfield 15, 3), (125, .iconst 1, 1), (126, .iadd, 1), (127, .putfield 15, 3), (130, .aload_n 0, 1), (131, .getfield 19, 3), (134, .invokevirtual 62, 3), (137, .aload_n 0, 1), (138, .getfield 27, 3), (141, .iload_n 3, 1), (142, .invokevirtual 79, 3), (145, .ifCond .eq 26, 3), (148, .aload_n 0, 1), (149, .iload_n 1, 1), (150, .iload_n 3, 1), (151, .invokevirtual 82, 3), (154, .ifCond .eq 17, 3), (157, .aload_n 0, 1), (158, .getfield 19, 3), (161, .invokevirtual 65, 3), (164, .ifCond .eq 7, 3), (167, .iconst 1, 1), (168, .goto 4, 3), (171, .iconst 0, 1), (172, .ireturn, 1)]
set_option maxRecDepth 100000 in
theorem dt_X6_readStep : ∀ q ∈ tb_X6_readStep, decode cX6_readStep q.1 = .ok q.2 := by decide +kernel
def tb_X6_readSteps : List (Nat × Jvm.ClassFile.Instr × Nat) := [(0, .aload_n 0, 1), (1, .getfield 27, 3), (4, .invokevirtual 31, 3), (7, .aload_n 0, 1), (8, .iconst 0, 1), (9, .putfield 15, 3), (12, .iconst 0, 1), (13, .istore_n 1, 1), (14, .iload_n 1, 1), (15, .sipush 901, 3), (18, .if_icmp .ge 49, 3), (21, .aload_n 0, 1), (22, .getfield 19, 3), (25, .getfield 36, 3), (28, .ifCond .eq 39, 3), (31, .aload_n 0, 1), (32, .getfield 19, 3), (35, .getfield 41, 3), (38, .bipush 26, 2), (40, .if_icmp .ne 10, 3), (43, .aload_n 0, 1), (44, .invokevirtual 44, 3), (47, .goto 7, 3), (50, .aload_n 0, 1), (51, .invokevirtual 48, 3), (54, .istore_n 2, 1), (55, .iload_n 2, 1), (56, .ifCond .ne 5, 3), (59, .iconst 0, 1), (60, .ireturn, 1), (61, .iinc 1 1, 3), (64, .goto (-50), 3), (67, .aload_n 0, 1), (68, .getfield 27, 3), (71, .aload_n 0, 1), (72, .getfield 15, 3), (75, .ifCond .ne 7, 3), (78, .iconst 1, 1), (79, .goto 4, 3), (82, .iconst 0, 1), (83, .putfield 51, 3), (86, .aload_n 0, 1), (87, .getfield 15, 3), (90, .ifCond .eq 13, 3), (93, .aload_n 0, 1), (94, .getfield 19, 3), (97, .invokevirtual 55, 3), (100, .ifCond .eq 7, 3), (103, .iconst 1, 1), (104, .goto 4, 3), (107, .iconst 0, 1), (108, .ireturn, 1)]
set_option maxRecDepth 100000 in
theorem dt_X6_readSteps : ∀ q ∈ tb_X6_readSteps, decode cX6_readSteps q.1 = .ok q.2 := by decide +kernel
def f_X6_readEnd_15 (w : GW) : Option (Int32 × GW) := ((F_X8_failHere (gsub w e_shPR_shT_2)).bind fun q8 => (if q8.1 = 0 ∨ q8.1 = 1 then some (q8.1, (gput w e_shPR_shT_2 q8.2)) else none))
def F_X6_readEnd (w : GW) : Option (Int32 × GW) := (if (w.1 0 4) ≤ 0 then (f_X6_readEnd_15 w) else (if (w.1 0 4) ≤ (3 : Int32) then (if gin ((w.1 0 4) - (1 : Int32)) 3 then ((F_X5_closeHere (w.1 1 ((w.1 0 4) - (1 : Int32)).toNatClampNeg) (gsub (gI w 0 4 ((w.1 0 4) - (1 : Int32))) e_shPR_shP_20)).bind fun q4 => ((F_X8_advance (gsub (gput (gI w 0 4 ((w.1 0 4) - (1 : Int32))) e_shPR_shP_20 q4) e_shPR_shT_2)).bind fun q5 => ((F_X8_passSemicolon (gsub (gput (gput (gI w 0 4 ((w.1 0 4) - (1 : Int32))) e_shPR_shP_20 q4) e_shPR_shT_2 q5) e_shPR_shT_2)).bind fun q6 => (if q6.1 = 0 ∨ q6.1 = 1 then some (q6.1, (gput (gput (gput (gI w 0 4 ((w.1 0 4) - (1 : Int32))) e_shPR_shP_20 q4) e_shPR_shT_2 q5) e_shPR_shT_2 q6.2)) else none)))) else none) else (f_X6_readEnd_15 w)))
def F_X6_put (a0 : Nat) (x1 : Int32) (x2 : Int32) (w : GW) : Option (Int32 × GW) := (if x1 < 0 then (some ((1 : Int32), w)) else (if (30 : Int32) ≤ x1 then (some ((1 : Int32), w)) else (if gin x1 30 then (some ((1 : Int32), (gI w a0 x1.toNatClampNeg x2))) else none)))
def F_X6_readMuch (x1 : Int32) (x2 : Int32) (x3 : Int32) (w : GW) : Option (Int32 × GW) := ((F_X8_passNumber x2 x3 (gsub w e_shPR_shT_2)).bind fun q1 => (if q1.1 = 0 then (some ((0 : Int32), (gput w e_shPR_shT_2 q1.2))) else ((F_X8_passedNumber (gsub (gput w e_shPR_shT_2 q1.2) e_shPR_shT_2)).bind fun q3 => ((F_X6_put 24 x1 q3 (gput w e_shPR_shT_2 q1.2)).bind fun q4 => (if q4.1 = 0 then (some ((0 : Int32), q4.2)) else (some ((1 : Int32), q4.2)))))))
def F_X6_readName (a1 : Nat) (x2 : Int32) (w : GW) : Option (Int32 × GW) := ((F_X8_passName (gsub w e_shPR_shT_2)).bind fun q1 => (if q1.1 = 0 then (some ((0 : Int32), (gput w e_shPR_shT_2 q1.2))) else ((F_X0_clerkNamed (gsub (gput w e_shPR_shT_2 q1.2) e_shPR_shB_7) (q1.2.2 0 3)).bind fun q3 => (if q3 = (-1 : Int32) then ((F_X8_failPassed (3 : Int32) (gsub (gput w e_shPR_shT_2 q1.2) e_shPR_shT_2)).bind fun q7 => (if q7.1 = 0 ∨ q7.1 = 1 then some (q7.1, (gput (gput w e_shPR_shT_2 q1.2) e_shPR_shT_2 q7.2)) else none)) else ((F_X6_put a1 x2 q3 (gput w e_shPR_shT_2 q1.2)).bind fun q5 => (if q5.1 = 0 ∨ q5.1 = 1 then some (q5.1, q5.2) else none))))))
def F_X6_mostTested (x0 : Int32) : Option Int32 := (if x0 = (4 : Int32) then (some (5 : Int32)) else (if x0 = (24 : Int32) then (some (99 : Int32)) else (some (9999 : Int32))))
def f_X6_readTest_74 (x1 : Int32) (x2 : Int32) (w : GW) : Option (Int32 × GW) := ((F_X8_passCompare (gsub w e_shPR_shT_2)).bind fun q11 => (if q11.1 = 0 then (some ((0 : Int32), (gput w e_shPR_shT_2 q11.2))) else ((F_X8_passedNumber (gsub (gput w e_shPR_shT_2 q11.2) e_shPR_shT_2)).bind fun q13 => ((F_X6_put 26 x1 q13 (gput w e_shPR_shT_2 q11.2)).bind fun q14 => ((F_X6_mostTested x2).bind fun q15 => ((F_X6_readMuch x1 (0 : Int32) q15 q14.2).bind fun q16 => (if q16.1 = 0 ∨ q16.1 = 1 then some (q16.1, q16.2) else none)))))))
def f_X6_readTest_32 (x1 : Int32) (x2 : Int32) (w : GW) : Option (Int32 × GW) := ((F_X6_put 25 x1 x2 w).bind fun q6 => ((F_X8_advance (gsub q6.2 e_shPR_shT_2)).bind fun q7 => (if x2 = (1 : Int32) then (f_X6_readTest_74 x1 x2 (gput q6.2 e_shPR_shT_2 q7)) else ((F_X6_readName 22 x1 (gput q6.2 e_shPR_shT_2 q7)).bind fun q9 => (if q9.1 = 0 then (some ((0 : Int32), q9.2)) else (f_X6_readTest_74 x1 x2 q9.2))))))
def F_X6_readTest (x1 : Int32) (w : GW) : Option (Int32 × GW) := (if (w.1 2 2) = (4 : Int32) then (f_X6_readTest_32 x1 (w.1 2 2) w) else (if (w.1 2 2) = (24 : Int32) then (f_X6_readTest_32 x1 (w.1 2 2) w) else (if (w.1 2 2) = (1 : Int32) then (f_X6_readTest_32 x1 (w.1 2 2) w) else ((F_X8_failHere (gsub w e_shPR_shT_2)).bind fun q4 => (if q4.1 = 0 ∨ q4.1 = 1 then some (q4.1, (gput w e_shPR_shT_2 q4.2)) else none)))))
def F_X6_readRest (x1 : Int32) (x2 : Int32) (w : GW) : Option (Int32 × GW) := (if x1 = (15 : Int32) then ((F_X6_readMuch x2 (1 : Int32) (20 : Int32) w).bind fun q2 => (if q2.1 = 0 ∨ q2.1 = 1 then some (q2.1, q2.2) else none)) else (if x1 = (16 : Int32) then ((F_X6_readName 22 x2 w).bind fun q5 => (if q5.1 = 0 then (some ((0 : Int32), q5.2)) else ((F_X6_readMuch x2 (0 : Int32) ((q5.2.1 7 3) - (1 : Int32)) q5.2).bind fun q7 => (if q7.1 = 0 then (some ((0 : Int32), q7.2)) else (some ((1 : Int32), q7.2)))))) else (if x1 = (17 : Int32) then ((F_X6_readName 22 x2 w).bind fun q10 => (if q10.1 = 0 then (some ((0 : Int32), q10.2)) else ((F_X6_readName 23 x2 q10.2).bind fun q12 => (if q12.1 = 0 then (some ((0 : Int32), q12.2)) else (some ((1 : Int32), q12.2)))))) else (if x1 = (18 : Int32) then ((F_X6_readName 22 x2 w).bind fun q15 => (if q15.1 = 0 then (some ((0 : Int32), q15.2)) else ((F_X6_readMuch x2 (1 : Int32) (50 : Int32) q15.2).bind fun q17 => (if q17.1 = 0 then (some ((0 : Int32), q17.2)) else (some ((1 : Int32), q17.2)))))) else (if x1 = (19 : Int32) then ((F_X6_readName 22 x2 w).bind fun q20 => (if q20.1 = 0 ∨ q20.1 = 1 then some (q20.1, q20.2) else none)) else (if x1 = (20 : Int32) then ((F_X6_readName 22 x2 w).bind fun q23 => (if q23.1 = 0 ∨ q23.1 = 1 then some (q23.1, q23.2) else none)) else (if x1 = (21 : Int32) then (some ((1 : Int32), w)) else (if x1 = (22 : Int32) then (some ((1 : Int32), w)) else (if x1 = (23 : Int32) then ((F_X6_readTest x2 w).bind fun q28 => (if q28.1 = 0 ∨ q28.1 = 1 then some (q28.1, q28.2) else none)) else (if x1 = (24 : Int32) then (some ((1 : Int32), w)) else (if x1 = (25 : Int32) then ((F_X6_readMuch x2 (1 : Int32) (99 : Int32) w).bind fun q32 => (if q32.1 = 0 ∨ q32.1 = 1 then some (q32.1, q32.2) else none)) else (some ((1 : Int32), w)))))))))))))
def f_X6_readStep_38 (w : GW) : Option (Int32 × GW) := ((F_X8_failHere (gsub w e_shPR_shT_2)).bind fun q12 => (if q12.1 = 0 ∨ q12.1 = 1 then some (q12.1, (gput w e_shPR_shT_2 q12.2)) else none))
def f_X6_readStep_130 (x1 : Int32) (x3 : Int32) (w : GW) : Option (Int32 × GW) := ((F_X8_advance (gsub w e_shPR_shT_2)).bind fun q18 => ((F_X5_hasStep (gsub (gput w e_shPR_shT_2 q18) e_shPR_shP_20) x3).bind fun q19 => (if q19 = 0 then (some ((0 : Int32), (gput w e_shPR_shT_2 q18))) else ((F_X6_readRest x1 x3 (gput w e_shPR_shT_2 q18)).bind fun q21 => (if q21.1 = 0 then (some ((0 : Int32), q21.2)) else ((F_X8_passSemicolon (gsub q21.2 e_shPR_shT_2)).bind fun q23 => (if q23.1 = 0 then (some ((0 : Int32), (gput q21.2 e_shPR_shT_2 q23.2))) else (some ((1 : Int32), (gput q21.2 e_shPR_shT_2 q23.2))))))))))
def f_X6_readStep_90 (x1 : Int32) (x2 : Int32) (w : GW) : Option (Int32 × GW) := ((F_X5_addStep x1 (gsub w e_shPR_shP_20)).bind fun q14 => (if x2 = 0 then (f_X6_readStep_130 x1 q14.1 (gput w e_shPR_shP_20 q14.2)) else (if (w.1 0 4) < 0 then (f_X6_readStep_130 x1 q14.1 (gput w e_shPR_shP_20 q14.2)) else (if gin (w.1 0 4) 3 then (f_X6_readStep_130 x1 q14.1 (gI (gI (gput w e_shPR_shP_20 q14.2) 1 (w.1 0 4).toNatClampNeg q14.1) 0 4 ((w.1 0 4) + (1 : Int32)))) else none))))
def f_X6_readStep_25 (x1 : Int32) (s0 : Int32) (w : GW) : Option (Int32 × GW) := (if x1 < (15 : Int32) then (f_X6_readStep_38 w) else (if x1 = (24 : Int32) then (f_X6_readStep_38 w) else (if (w.1 20 1) < (30 : Int32) then (if s0 = 0 then (f_X6_readStep_90 x1 s0 w) else (if (w.1 0 4) < (3 : Int32) then (f_X6_readStep_90 x1 s0 w) else ((F_X8_fail (7 : Int32) (gsub w e_shPR_shT_2)).bind fun q8 => (if q8.1 = 0 ∨ q8.1 = 1 then some (q8.1, (gput w e_shPR_shT_2 q8.2)) else none)))) else ((F_X8_fail (6 : Int32) (gsub w e_shPR_shT_2)).bind fun q10 => (if q10.1 = 0 ∨ q10.1 = 1 then some (q10.1, (gput w e_shPR_shT_2 q10.2)) else none)))))
def f_X6_readStep_20 (x1 : Int32) (w : GW) : Option (Int32 × GW) := (f_X6_readStep_25 x1 (1 : Int32) w)
def F_X6_readStep (w : GW) : Option (Int32 × GW) := (if (w.1 2 2) = (23 : Int32) then (f_X6_readStep_20 (w.1 2 2) w) else (if (w.1 2 2) = (25 : Int32) then (f_X6_readStep_20 (w.1 2 2) w) else (f_X6_readStep_25 (w.1 2 2) (0 : Int32) w)))
def f_X6_readSteps_54 (k14 : Int32 → GW → Option (Int32 × GW)) (x1 : Int32) (s0 : Int32) (w : GW) : Option (Int32 × GW) := (if s0 = 0 then (some ((0 : Int32), w)) else (k14 (x1 + (1 : Int32)) w))
def f_X6_readSteps_83 (s0 : Int32) (w : GW) : Option (Int32 × GW) := (if s0 = 0 ∨ s0 = 1 then (if (w.1 0 4) = 0 then (some ((1 : Int32), (gI w 20 0 s0))) else ((F_X8_failHere (gsub (gI w 20 0 s0) e_shPR_shT_2)).bind fun q11 => (if q11.1 = 0 then (some ((0 : Int32), (gput (gI w 20 0 s0) e_shPR_shT_2 q11.2))) else (some ((1 : Int32), (gput (gI w 20 0 s0) e_shPR_shT_2 q11.2)))))) else none)
def f_X6_readSteps_67 (w : GW) : Option (Int32 × GW) := (if (w.1 0 4) = 0 then (f_X6_readSteps_83 (1 : Int32) w) else (f_X6_readSteps_83 (0 : Int32) w))
def b_X6_readSteps_14 (k14 : Int32 → GW → Option (Int32 × GW)) (x1 : Int32) (w : GW) : Option (Int32 × GW) := (if (901 : Int32) ≤ x1 then (f_X6_readSteps_67 w) else (if (w.1 2 1) = 0 then (f_X6_readSteps_67 w) else (if (w.1 2 2) = (26 : Int32) then ((F_X6_readEnd w).bind fun q6 => (f_X6_readSteps_54 k14 x1 q6.1 q6.2)) else ((F_X6_readStep w).bind fun q5 => (f_X6_readSteps_54 k14 x1 q5.1 q5.2)))))
def f_X6_readSteps_14 : Nat → Int32 → GW → Option (Int32 × GW)
  | 0, _, _ => none
  | n + 1, x1, w => b_X6_readSteps_14 (f_X6_readSteps_14 n) x1 w
def F_X6_readSteps (w : GW) : Option (Int32 × GW) := ((F_X5_clear (gsub w e_shPR_shP_20)).bind fun q1 => (f_X6_readSteps_14 FU (0 : Int32) (gI (gput w e_shPR_shP_20 q1) 0 4 (0 : Int32))))
set_option maxHeartbeats 4000000 in
set_option maxRecDepth 100000 in
theorem L_X6_readEnd_15 {p : Program} {l : Launch} {e : Env} {s : State} {m : MethodId} {args : Array Value} {below : List Frame} {meth : Method} {c : Code} {D : va_G} {cA ad : Nat → Nat} {q : (Int32 × GW)} (C : gC p c cX6_readEnd meth m s args 1 (some .boolean) RX6 D cA ad shPR) (w : GW) (hf : f_X6_readEnd_15 w = some q) : gW p l e (gRm 3 162) s m args below meth c D cA ad shPR 1 0 0 (gQ below D cA ad shPR (some (.int q.1)) q.2 args s) 15 [(0, .ref 0)] [] w := by
  unfold f_X6_readEnd_15 at hf
  refine g_aload_n C (gdec dt_X6_readEnd 7 rfl) (i := 0) rfl rfl ?_
  refine g_getr C (j := 2) kf_X6_19 rfl rfl (gdec dt_X6_readEnd 8 rfl) ?_
  obtain ⟨q8, hq8, hf⟩ := Option.bind_eq_some_iff.mp hf
  refine g_invVs e_shPR_shT_2 [] [] C (c_X8_failHere l D cA _ (gInj_sub em_e_shPR_shT_2 (gCi C)) (gsub w e_shPR_shT_2)  q8 hq8) em_e_shPR_shT_2 (by decide) rfl kT_X8_failHere kl_X6_55 kim_X8_failHere kse_X8_failHere rfl rfl (i := 2) rfl rfl ⟨by decide, by decide⟩ gk0 (Nat.le_of_ble_eq_true rfl) (gdec dt_X6_readEnd 9 rfl) rfl (st2 := [.int q8.1]) (w2 := (gput w e_shPR_shT_2 q8.2)) rfl rfl ?_
  obtain ⟨hb9, hf⟩ := gif hf
  cases hf
  exact g_zret C hb9 rfl (gdec dt_X6_readEnd 10 rfl)
set_option maxHeartbeats 4000000 in
set_option maxRecDepth 100000 in
theorem c_X6_readEnd (l : Launch) (D : va_G) (cA ad : Nat → Nat) (hin : gInj ad shPR.length) (w : GW) (q : (Int32 × GW)) (hf : F_X6_readEnd w = some q) : gMet l yX6_readEnd cX6_readEnd 1 (some .boolean) 3 162 D cA ad shPR [.ref 0] w (some (.int q.1)) q.2 := by
  refine g_entry (by decide) hin (Nat.le_of_ble_eq_true rfl) ?_
  intro p e s m args below meth c C
  unfold F_X6_readEnd at hf
  show gW p l e (gRm 3 162) s m args below meth c D cA ad shPR 1 0 0 (gQ below D cA ad shPR (some (.int q.1)) q.2 args s) 0 [(0, .ref 0)] [] w
  refine g_aload_n C (gdec dt_X6_readEnd 0 rfl) (i := 0) rfl rfl ?_
  refine g_geti C kf_X6_15 rfl rfl (gdec dt_X6_readEnd 1 rfl) ?_
  refine g_if_le C (tgt := 15) (gdec dt_X6_readEnd 2 rfl) (by decide) (fun hc1 => ?_) (fun hc1 => ?_)
  · have hf := (if_pos hc1).symm.trans hf
    refine g_sub [0] (lo2 := [(0, .ref 0)]) rfl ?_
    exact L_X6_readEnd_15 C w hf
  · have hf := (if_neg hc1).symm.trans hf
    refine g_aload_n C (gdec dt_X6_readEnd 3 rfl) (i := 0) rfl rfl ?_
    refine g_geti C kf_X6_15 rfl rfl (gdec dt_X6_readEnd 4 rfl) ?_
    refine g_iconst C (gdec dt_X6_readEnd 5 rfl) ic_3 ?_
    refine g_icmp_le C (tgt := 23) (gdec dt_X6_readEnd 6 rfl) (by decide) (fun hc2 => ?_) (fun hc2 => ?_)
    · have hf := (if_pos hc2).symm.trans hf
      refine g_aload_n C (gdec dt_X6_readEnd 11 rfl) (i := 0) rfl rfl ?_
      refine g_dup C (gdec dt_X6_readEnd 12 rfl) rfl ?_
      refine g_geti C kf_X6_15 rfl rfl (gdec dt_X6_readEnd 13 rfl) ?_
      refine g_iconst C (gdec dt_X6_readEnd 14 rfl) ic_1 ?_
      refine g_isub C (gdec dt_X6_readEnd 15 rfl) ?_
      refine g_puti C kf_X6_15 rfl rfl (gdec dt_X6_readEnd 16 rfl) ?_
      refine g_aload_n C (gdec dt_X6_readEnd 17 rfl) (i := 0) rfl rfl ?_
      refine g_getr C (j := 20) kf_X6_27 rfl rfl (gdec dt_X6_readEnd 18 rfl) ?_
      refine g_aload_n C (gdec dt_X6_readEnd 19 rfl) (i := 0) rfl rfl ?_
      refine g_getr C (j := 1) kf_X6_9 rfl rfl (gdec dt_X6_readEnd 20 rfl) ?_
      refine g_aload_n C (gdec dt_X6_readEnd 21 rfl) (i := 0) rfl rfl ?_
      refine g_getiv C kf_X6_15 rfl rfl (gdec dt_X6_readEnd 22 rfl) (v := ((w.1 0 4) - (1 : Int32))) rfl ?_
      obtain ⟨hg3, hf⟩ := gif hf
      refine g_iald C (i := 1) rfl hg3 rfl (gdec dt_X6_readEnd 23 rfl) ?_
      obtain ⟨q4, hq4, hf⟩ := Option.bind_eq_some_iff.mp hf
      refine g_invVs e_shPR_shP_20 [.int (w.1 1 ((w.1 0 4) - (1 : Int32)).toNatClampNeg)] [] C (c_X5_closeHere l D cA _ (gInj_sub em_e_shPR_shP_20 (gCi C)) (gsub (gI w 0 4 ((w.1 0 4) - (1 : Int32))) e_shPR_shP_20) (w.1 1 ((w.1 0 4) - (1 : Int32)).toNatClampNeg) q4 hq4) em_e_shPR_shP_20 (by decide) rfl kT_X5_closeHere kl_X6_58 kim_X5_closeHere kse_X5_closeHere rfl rfl (i := 20) rfl rfl ⟨by decide, by decide⟩ gk0 (Nat.le_of_ble_eq_true rfl) (gdec dt_X6_readEnd 24 rfl) rfl (st2 := []) (w2 := (gput (gI w 0 4 ((w.1 0 4) - (1 : Int32))) e_shPR_shP_20 q4)) rfl rfl ?_
      refine g_aload_n C (gdec dt_X6_readEnd 25 rfl) (i := 0) rfl rfl ?_
      refine g_getr C (j := 2) kf_X6_19 rfl rfl (gdec dt_X6_readEnd 26 rfl) ?_
      obtain ⟨q5, hq5, hf⟩ := Option.bind_eq_some_iff.mp hf
      refine g_invVs e_shPR_shT_2 [] [] C (c_X8_advance l D cA _ (gInj_sub em_e_shPR_shT_2 (gCi C)) (gsub (gput (gI w 0 4 ((w.1 0 4) - (1 : Int32))) e_shPR_shP_20 q4) e_shPR_shT_2)  q5 hq5) em_e_shPR_shT_2 (by decide) rfl kT_X8_advance kl_X6_62 kim_X8_advance kse_X8_advance rfl rfl (i := 2) rfl rfl ⟨by decide, by decide⟩ gk0 (Nat.le_of_ble_eq_true rfl) (gdec dt_X6_readEnd 27 rfl) rfl (st2 := []) (w2 := (gput (gput (gI w 0 4 ((w.1 0 4) - (1 : Int32))) e_shPR_shP_20 q4) e_shPR_shT_2 q5)) rfl rfl ?_
      refine g_aload_n C (gdec dt_X6_readEnd 28 rfl) (i := 0) rfl rfl ?_
      refine g_getr C (j := 2) kf_X6_19 rfl rfl (gdec dt_X6_readEnd 29 rfl) ?_
      obtain ⟨q6, hq6, hf⟩ := Option.bind_eq_some_iff.mp hf
      refine g_invVs e_shPR_shT_2 [] [] C (c_X8_passSemicolon l D cA _ (gInj_sub em_e_shPR_shT_2 (gCi C)) (gsub (gput (gput (gI w 0 4 ((w.1 0 4) - (1 : Int32))) e_shPR_shP_20 q4) e_shPR_shT_2 q5) e_shPR_shT_2)  q6 hq6) em_e_shPR_shT_2 (by decide) rfl kT_X8_passSemicolon kl_X6_65 kim_X8_passSemicolon kse_X8_passSemicolon rfl rfl (i := 2) rfl rfl ⟨by decide, by decide⟩ gk0 (Nat.le_of_ble_eq_true rfl) (gdec dt_X6_readEnd 30 rfl) rfl (st2 := [.int q6.1]) (w2 := (gput (gput (gput (gI w 0 4 ((w.1 0 4) - (1 : Int32))) e_shPR_shP_20 q4) e_shPR_shT_2 q5) e_shPR_shT_2 q6.2)) rfl rfl ?_
      obtain ⟨hb7, hf⟩ := gif hf
      cases hf
      exact g_zret C hb7 rfl (gdec dt_X6_readEnd 31 rfl)
    · have hf := (if_neg hc2).symm.trans hf
      refine g_sub [0] (lo2 := [(0, .ref 0)]) rfl ?_
      exact L_X6_readEnd_15 C w hf
set_option maxHeartbeats 4000000 in
set_option maxRecDepth 100000 in
theorem c_X6_put (l : Launch) (D : va_G) (cA ad : Nat → Nat) (hin : gInj ad shPR.length) (a0 : Nat) (ha0 : shPR[a0]? = some (0, [30])) (w : GW) (x1 : Int32) (x2 : Int32) (q : (Int32 × GW)) (hf : F_X6_put a0 x1 x2 w = some q) : gMet l yX6_put cX6_put 3 (some .boolean) 1 120 D cA ad shPR [.ref a0, .int x1, .int x2] w (some (.int q.1)) q.2 := by
  refine g_entry (by decide) hin (Nat.le_of_ble_eq_true rfl) ?_
  intro p e s m args below meth c C
  unfold F_X6_put at hf
  show gW p l e (gRm 1 120) s m args below meth c D cA ad shPR 3 0 0 (gQ below D cA ad shPR (some (.int q.1)) q.2 args s) 0 [(0, .ref a0), (1, .int x1), (2, .int x2)] [] w
  refine g_iload_n C (gdec dt_X6_put 0 rfl) (i := 1) rfl rfl ?_
  refine g_if_lt C (tgt := 14) (gdec dt_X6_put 1 rfl) (by decide) (fun hc1 => ?_) (fun hc1 => ?_)
  · have hf := (if_pos hc1).symm.trans hf
    refine g_iconst C (gdec dt_X6_put 10 rfl) ic_1 ?_
    cases hf
    exact g_zret C (Or.inr rfl) rfl (gdec dt_X6_put 11 rfl)
  · have hf := (if_neg hc1).symm.trans hf
    refine g_iload_n C (gdec dt_X6_put 2 rfl) (i := 1) rfl rfl ?_
    refine g_aload_n C (gdec dt_X6_put 3 rfl) (i := 0) rfl rfl ?_
    refine g_alen C ha0 (by decide) (v := (30 : Int32)) rfl (gdec dt_X6_put 4 rfl) ?_
    refine g_icmp_ge C (tgt := 14) (gdec dt_X6_put 5 rfl) (by decide) (fun hc2 => ?_) (fun hc2 => ?_)
    · have hf := (if_pos hc2).symm.trans hf
      refine g_iconst C (gdec dt_X6_put 10 rfl) ic_1 ?_
      cases hf
      exact g_zret C (Or.inr rfl) rfl (gdec dt_X6_put 11 rfl)
    · have hf := (if_neg hc2).symm.trans hf
      refine g_aload_n C (gdec dt_X6_put 6 rfl) (i := 0) rfl rfl ?_
      refine g_iload_n C (gdec dt_X6_put 7 rfl) (i := 1) rfl rfl ?_
      refine g_iload_n C (gdec dt_X6_put 8 rfl) (i := 2) rfl rfl ?_
      obtain ⟨hg3, hf⟩ := gif hf
      refine g_iast C ha0 hg3 rfl (gdec dt_X6_put 9 rfl) ?_
      refine g_iconst C (gdec dt_X6_put 10 rfl) ic_1 ?_
      cases hf
      exact g_zret C (Or.inr rfl) rfl (gdec dt_X6_put 11 rfl)
set_option maxHeartbeats 4000000 in
set_option maxRecDepth 100000 in
theorem c_X6_readMuch (l : Launch) (D : va_G) (cA ad : Nat → Nat) (hin : gInj ad shPR.length) (w : GW) (x1 : Int32) (x2 : Int32) (x3 : Int32) (q : (Int32 × GW)) (hf : F_X6_readMuch x1 x2 x3 w = some q) : gMet l yX6_readMuch cX6_readMuch 4 (some .boolean) 3 163 D cA ad shPR [.ref 0, .int x1, .int x2, .int x3] w (some (.int q.1)) q.2 := by
  refine g_entry (by decide) hin (Nat.le_of_ble_eq_true rfl) ?_
  intro p e s m args below meth c C
  unfold F_X6_readMuch at hf
  show gW p l e (gRm 3 163) s m args below meth c D cA ad shPR 4 0 0 (gQ below D cA ad shPR (some (.int q.1)) q.2 args s) 0 [(0, .ref 0), (1, .int x1), (2, .int x2), (3, .int x3)] [] w
  refine g_aload_n C (gdec dt_X6_readMuch 0 rfl) (i := 0) rfl rfl ?_
  refine g_getr C (j := 2) kf_X6_19 rfl rfl (gdec dt_X6_readMuch 1 rfl) ?_
  refine g_iload_n C (gdec dt_X6_readMuch 2 rfl) (i := 2) rfl rfl ?_
  refine g_iload_n C (gdec dt_X6_readMuch 3 rfl) (i := 3) rfl rfl ?_
  obtain ⟨q1, hq1, hf⟩ := Option.bind_eq_some_iff.mp hf
  refine g_invVs e_shPR_shT_2 [.int x2, .int x3] [] C (c_X8_passNumber l D cA _ (gInj_sub em_e_shPR_shT_2 (gCi C)) (gsub w e_shPR_shT_2) x2 x3 q1 hq1) em_e_shPR_shT_2 (by decide) rfl kT_X8_passNumber kl_X6_108 kim_X8_passNumber kse_X8_passNumber rfl rfl (i := 2) rfl rfl ⟨by decide, by decide⟩ gk0 (Nat.le_of_ble_eq_true rfl) (gdec dt_X6_readMuch 4 rfl) rfl (st2 := [.int q1.1]) (w2 := (gput w e_shPR_shT_2 q1.2)) rfl rfl ?_
  refine g_if_eq C (tgt := 37) (gdec dt_X6_readMuch 5 rfl) (by decide) (fun hc2 => ?_) (fun hc2 => ?_)
  · have hf := (if_pos hc2).symm.trans hf
    refine g_iconst C (gdec dt_X6_readMuch 17 rfl) ic_0 ?_
    cases hf
    exact g_zret C (Or.inl rfl) rfl (gdec dt_X6_readMuch 18 rfl)
  · have hf := (if_neg hc2).symm.trans hf
    refine g_aload_n C (gdec dt_X6_readMuch 6 rfl) (i := 0) rfl rfl ?_
    refine g_getr C (j := 20) kf_X6_27 rfl rfl (gdec dt_X6_readMuch 7 rfl) ?_
    refine g_getr C (j := 24) kf_X6_111 rfl rfl (gdec dt_X6_readMuch 8 rfl) ?_
    refine g_iload_n C (gdec dt_X6_readMuch 9 rfl) (i := 1) rfl rfl ?_
    refine g_aload_n C (gdec dt_X6_readMuch 10 rfl) (i := 0) rfl rfl ?_
    refine g_getr C (j := 2) kf_X6_19 rfl rfl (gdec dt_X6_readMuch 11 rfl) ?_
    obtain ⟨q3, hq3, hf⟩ := Option.bind_eq_some_iff.mp hf
    refine g_invVs e_shPR_shT_2 [] [.int x1, .ref 24] C (c_X8_passedNumber l D cA _ (gInj_sub em_e_shPR_shT_2 (gCi C)) (gsub (gput w e_shPR_shT_2 q1.2) e_shPR_shT_2)  q3 hq3) em_e_shPR_shT_2 (by decide) rfl kT_X8_passedNumber kl_X6_114 kim_X8_passedNumber kse_X8_passedNumber rfl rfl (i := 2) rfl rfl ⟨by decide, by decide⟩ gk0 (Nat.le_of_ble_eq_true rfl) (gdec dt_X6_readMuch 12 rfl) rfl (st2 := [.int q3, .int x1, .ref 24]) (w2 := (gput w e_shPR_shT_2 q1.2)) rfl (gput_sub _ _) ?_
    obtain ⟨q4, hq4, hf⟩ := Option.bind_eq_some_iff.mp hf
    refine g_invS [.ref 24, .int x1, .int q3] [] C (c_X6_put l D cA _ (gCi C) 24 rfl (gput w e_shPR_shT_2 q1.2) x1 q3 q4 hq4) kT_X6_put kl_X6_118 kst_X6_put rfl rfl ⟨by decide, by decide⟩ gk0 (Nat.le_of_ble_eq_true rfl) (gdec dt_X6_readMuch 13 rfl) rfl (st2 := [.int q4.1]) rfl ?_
    refine g_if_eq C (tgt := 37) (gdec dt_X6_readMuch 14 rfl) (by decide) (fun hc5 => ?_) (fun hc5 => ?_)
    · have hf := (if_pos hc5).symm.trans hf
      refine g_iconst C (gdec dt_X6_readMuch 17 rfl) ic_0 ?_
      cases hf
      exact g_zret C (Or.inl rfl) rfl (gdec dt_X6_readMuch 18 rfl)
    · have hf := (if_neg hc5).symm.trans hf
      refine g_iconst C (gdec dt_X6_readMuch 15 rfl) ic_1 ?_
      refine g_goto C (tgt := 38) (gdec dt_X6_readMuch 16 rfl) (by decide) ?_
      cases hf
      exact g_zret C (Or.inr rfl) rfl (gdec dt_X6_readMuch 18 rfl)
set_option maxHeartbeats 4000000 in
set_option maxRecDepth 100000 in
theorem c_X6_readName (l : Launch) (D : va_G) (cA ad : Nat → Nat) (hin : gInj ad shPR.length) (a1 : Nat) (ha1 : shPR[a1]? = some (0, [30])) (w : GW) (x2 : Int32) (q : (Int32 × GW)) (hf : F_X6_readName a1 x2 w = some q) : gMet l yX6_readName cX6_readName 4 (some .boolean) 3 160 D cA ad shPR [.ref 0, .ref a1, .int x2] w (some (.int q.1)) q.2 := by
  refine g_entry (by decide) hin (Nat.le_of_ble_eq_true rfl) ?_
  intro p e s m args below meth c C
  unfold F_X6_readName at hf
  show gW p l e (gRm 3 160) s m args below meth c D cA ad shPR 4 0 0 (gQ below D cA ad shPR (some (.int q.1)) q.2 args s) 0 [(0, .ref 0), (1, .ref a1), (2, .int x2)] [] w
  refine g_aload_n C (gdec dt_X6_readName 0 rfl) (i := 0) rfl rfl ?_
  refine g_getr C (j := 2) kf_X6_19 rfl rfl (gdec dt_X6_readName 1 rfl) ?_
  obtain ⟨q1, hq1, hf⟩ := Option.bind_eq_some_iff.mp hf
  refine g_invVs e_shPR_shT_2 [] [] C (c_X8_passName l D cA _ (gInj_sub em_e_shPR_shT_2 (gCi C)) (gsub w e_shPR_shT_2)  q1 hq1) em_e_shPR_shT_2 (by decide) rfl kT_X8_passName kl_X6_122 kim_X8_passName kse_X8_passName rfl rfl (i := 2) rfl rfl ⟨by decide, by decide⟩ gk0 (Nat.le_of_ble_eq_true rfl) (gdec dt_X6_readName 2 rfl) rfl (st2 := [.int q1.1]) (w2 := (gput w e_shPR_shT_2 q1.2)) rfl rfl ?_
  refine g_if_ne C (tgt := 12) (gdec dt_X6_readName 3 rfl) (by decide) (fun hc2 => ?_) (fun hc2 => ?_)
  · have hf := (if_neg hc2).symm.trans hf
    refine g_aload_n C (gdec dt_X6_readName 6 rfl) (i := 0) rfl rfl ?_
    refine g_getr C (j := 7) kf_X6_23 rfl rfl (gdec dt_X6_readName 7 rfl) ?_
    refine g_aload_n C (gdec dt_X6_readName 8 rfl) (i := 0) rfl rfl ?_
    refine g_getr C (j := 2) kf_X6_19 rfl rfl (gdec dt_X6_readName 9 rfl) ?_
    refine g_getlv C kf_X6_125 rfl rfl (gdec dt_X6_readName 10 rfl) (v := (q1.2.2 0 3)) rfl ?_
    obtain ⟨q3, hq3, hf⟩ := Option.bind_eq_some_iff.mp hf
    refine g_invVs e_shPR_shB_7 [.long (q1.2.2 0 3)] [] C (c_X0_clerkNamed l D cA _ (gInj_sub em_e_shPR_shB_7 (gCi C)) (gsub (gput w e_shPR_shT_2 q1.2) e_shPR_shB_7) (q1.2.2 0 3) q3 hq3) em_e_shPR_shB_7 (by decide) rfl kT_X0_clerkNamed kl_X6_129 kim_X0_clerkNamed kse_X0_clerkNamed rfl rfl (i := 7) rfl rfl ⟨by decide, by decide⟩ gk0 (Nat.le_of_ble_eq_true rfl) (gdec dt_X6_readName 11 rfl) rfl (st2 := [.int q3]) (w2 := (gput w e_shPR_shT_2 q1.2)) rfl (gput_sub _ _) ?_
    refine g_istore_n C (gdec dt_X6_readName 12 rfl) (i := 3) rfl (by decide) (lo2 := [(3, .int q3), (0, .ref 0), (1, .ref a1), (2, .int x2)]) rfl ?_
    refine g_iload_n C (gdec dt_X6_readName 13 rfl) (i := 3) rfl rfl ?_
    refine g_iconst C (gdec dt_X6_readName 14 rfl) ic_m1 ?_
    refine g_icmp_ne C (tgt := 41) (gdec dt_X6_readName 15 rfl) (by decide) (fun hc4 => ?_) (fun hc4 => ?_)
    · have hf := (if_neg hc4).symm.trans hf
      refine g_aload_n C (gdec dt_X6_readName 21 rfl) (i := 1) rfl rfl ?_
      refine g_iload_n C (gdec dt_X6_readName 22 rfl) (i := 2) rfl rfl ?_
      refine g_iload_n C (gdec dt_X6_readName 23 rfl) (i := 3) rfl rfl ?_
      obtain ⟨q5, hq5, hf⟩ := Option.bind_eq_some_iff.mp hf
      refine g_invS [.ref a1, .int x2, .int q3] [] C (c_X6_put l D cA _ (gCi C) a1 ha1 (gput w e_shPR_shT_2 q1.2) x2 q3 q5 hq5) kT_X6_put kl_X6_118 kst_X6_put rfl rfl ⟨by decide, by decide⟩ gk0 (Nat.le_of_ble_eq_true rfl) (gdec dt_X6_readName 24 rfl) rfl (st2 := [.int q5.1]) rfl ?_
      obtain ⟨hb6, hf⟩ := gif hf
      cases hf
      exact g_zret C hb6 rfl (gdec dt_X6_readName 25 rfl)
    · have hf := (if_pos hc4).symm.trans hf
      refine g_aload_n C (gdec dt_X6_readName 16 rfl) (i := 0) rfl rfl ?_
      refine g_getr C (j := 2) kf_X6_19 rfl rfl (gdec dt_X6_readName 17 rfl) ?_
      refine g_iconst C (gdec dt_X6_readName 18 rfl) ic_3 ?_
      obtain ⟨q7, hq7, hf⟩ := Option.bind_eq_some_iff.mp hf
      refine g_invVs e_shPR_shT_2 [.int (3 : Int32)] [] C (c_X8_failPassed l D cA _ (gInj_sub em_e_shPR_shT_2 (gCi C)) (gsub (gput w e_shPR_shT_2 q1.2) e_shPR_shT_2) (3 : Int32) q7 hq7) em_e_shPR_shT_2 (by decide) rfl kT_X8_failPassed kl_X6_133 kim_X8_failPassed kse_X8_failPassed rfl rfl (i := 2) rfl rfl ⟨by decide, by decide⟩ gk0 (Nat.le_of_ble_eq_true rfl) (gdec dt_X6_readName 19 rfl) rfl (st2 := [.int q7.1]) (w2 := (gput (gput w e_shPR_shT_2 q1.2) e_shPR_shT_2 q7.2)) rfl rfl ?_
      obtain ⟨hb8, hf⟩ := gif hf
      cases hf
      exact g_zret C hb8 rfl (gdec dt_X6_readName 20 rfl)
  · have hf := (if_pos hc2).symm.trans hf
    refine g_iconst C (gdec dt_X6_readName 4 rfl) ic_0 ?_
    cases hf
    exact g_zret C (Or.inl rfl) rfl (gdec dt_X6_readName 5 rfl)
set_option maxHeartbeats 4000000 in
set_option maxRecDepth 100000 in
theorem c_X6_mostTested (l : Launch) (D : va_G) (cA ad : Nat → Nat) (hin : gInj ad shE.length) (w : GW) (x0 : Int32) (q : Int32) (hf : F_X6_mostTested x0 = some q) : gMet l yX6_mostTested cX6_mostTested 1 (some .int) 1 120 D cA ad shE [.int x0] w (some (.int q)) w := by
  refine g_entry (by decide) hin (Nat.le_of_ble_eq_true rfl) ?_
  intro p e s m args below meth c C
  unfold F_X6_mostTested at hf
  show gW p l e (gRm 1 120) s m args below meth c D cA ad shE 1 0 0 (gQ below D cA ad shE (some (.int q)) w args s) 0 [(0, .int x0)] [] w
  refine g_iload_n C (gdec dt_X6_mostTested 0 rfl) (i := 0) rfl rfl ?_
  by_cases hc1 : x0 = (4 : Int32)
  · have hf := (if_pos hc1).symm.trans hf
    refine g_lookup C (tgt := 28) (off := 27) (gdec dt_X6_mostTested 1 rfl) (by decide) (by rw [hc1]; decide) (by decide) ?_
    refine g_iconst C (gdec dt_X6_mostTested 2 rfl) ic_5 ?_
    cases hf
    exact g_iret C rfl (gdec dt_X6_mostTested 3 rfl)
  replace hf := (if_neg hc1).symm.trans hf
  by_cases hc2 : x0 = (24 : Int32)
  · have hf := (if_pos hc2).symm.trans hf
    refine g_lookup C (tgt := 30) (off := 29) (gdec dt_X6_mostTested 1 rfl) (by decide) (by rw [hc2]; decide) (by decide) ?_
    refine g_bipush C (gdec dt_X6_mostTested 4 rfl) bc_99 ?_
    cases hf
    exact g_iret C rfl (gdec dt_X6_mostTested 5 rfl)
  replace hf := (if_neg hc2).symm.trans hf
  refine g_lookup C (tgt := 33) (off := 32) (gdec dt_X6_mostTested 1 rfl) (by decide) ?_ (by decide) ?_
  · show Op.lookupswitch.offset [(4, 27), (24, 29)] (32) _ = _
    rw [lv_osw hc1 (by decide), lv_osw hc2 (by decide)]
    rfl
  refine g_sipush C (gdec dt_X6_mostTested 6 rfl) sc_9999 ?_
  cases hf
  exact g_iret C rfl (gdec dt_X6_mostTested 7 rfl)
set_option maxHeartbeats 4000000 in
set_option maxRecDepth 100000 in
theorem L_X6_readTest_74 {p : Program} {l : Launch} {e : Env} {s : State} {m : MethodId} {args : Array Value} {below : List Frame} {meth : Method} {c : Code} {D : va_G} {cA ad : Nat → Nat} {q : (Int32 × GW)} (C : gC p c cX6_readTest meth m s args 3 (some .boolean) RX6 D cA ad shPR) (x1 : Int32) (x2 : Int32) (w : GW) (hf : f_X6_readTest_74 x1 x2 w = some q) : gW p l e (gRm 4 186) s m args below meth c D cA ad shPR 3 0 0 (gQ below D cA ad shPR (some (.int q.1)) q.2 args s) 74 [(0, .ref 0), (1, .int x1), (2, .int x2)] [] w := by
  unfold f_X6_readTest_74 at hf
  refine g_aload_n C (gdec dt_X6_readTest 39 rfl) (i := 0) rfl rfl ?_
  refine g_getr C (j := 2) kf_X6_19 rfl rfl (gdec dt_X6_readTest 40 rfl) ?_
  obtain ⟨q11, hq11, hf⟩ := Option.bind_eq_some_iff.mp hf
  refine g_invVs e_shPR_shT_2 [] [] C (c_X8_passCompare l D cA _ (gInj_sub em_e_shPR_shT_2 (gCi C)) (gsub w e_shPR_shT_2)  q11 hq11) em_e_shPR_shT_2 (by decide) rfl kT_X8_passCompare kl_X6_139 kim_X8_passCompare kse_X8_passCompare rfl rfl (i := 2) rfl rfl ⟨by decide, by decide⟩ gk0 (Nat.le_of_ble_eq_true rfl) (gdec dt_X6_readTest 41 rfl) rfl (st2 := [.int q11.1]) (w2 := (gput w e_shPR_shT_2 q11.2)) rfl rfl ?_
  refine g_if_ne C (tgt := 86) (gdec dt_X6_readTest 42 rfl) (by decide) (fun hc12 => ?_) (fun hc12 => ?_)
  · have hf := (if_neg hc12).symm.trans hf
    refine g_aload_n C (gdec dt_X6_readTest 45 rfl) (i := 0) rfl rfl ?_
    refine g_getr C (j := 20) kf_X6_27 rfl rfl (gdec dt_X6_readTest 46 rfl) ?_
    refine g_getr C (j := 26) kf_X6_142 rfl rfl (gdec dt_X6_readTest 47 rfl) ?_
    refine g_iload_n C (gdec dt_X6_readTest 48 rfl) (i := 1) rfl rfl ?_
    refine g_aload_n C (gdec dt_X6_readTest 49 rfl) (i := 0) rfl rfl ?_
    refine g_getr C (j := 2) kf_X6_19 rfl rfl (gdec dt_X6_readTest 50 rfl) ?_
    obtain ⟨q13, hq13, hf⟩ := Option.bind_eq_some_iff.mp hf
    refine g_invVs e_shPR_shT_2 [] [.int x1, .ref 26] C (c_X8_passedNumber l D cA _ (gInj_sub em_e_shPR_shT_2 (gCi C)) (gsub (gput w e_shPR_shT_2 q11.2) e_shPR_shT_2)  q13 hq13) em_e_shPR_shT_2 (by decide) rfl kT_X8_passedNumber kl_X6_114 kim_X8_passedNumber kse_X8_passedNumber rfl rfl (i := 2) rfl rfl ⟨by decide, by decide⟩ gk0 (Nat.le_of_ble_eq_true rfl) (gdec dt_X6_readTest 51 rfl) rfl (st2 := [.int q13, .int x1, .ref 26]) (w2 := (gput w e_shPR_shT_2 q11.2)) rfl (gput_sub _ _) ?_
    obtain ⟨q14, hq14, hf⟩ := Option.bind_eq_some_iff.mp hf
    refine g_invS [.ref 26, .int x1, .int q13] [] C (c_X6_put l D cA _ (gCi C) 26 rfl (gput w e_shPR_shT_2 q11.2) x1 q13 q14 hq14) kT_X6_put kl_X6_118 kst_X6_put rfl rfl ⟨by decide, by decide⟩ gk0 (Nat.le_of_ble_eq_true rfl) (gdec dt_X6_readTest 52 rfl) rfl (st2 := [.int q14.1]) rfl ?_
    refine g_pop C (gdec dt_X6_readTest 53 rfl) rfl ?_
    refine g_aload_n C (gdec dt_X6_readTest 54 rfl) (i := 0) rfl rfl ?_
    refine g_iload_n C (gdec dt_X6_readTest 55 rfl) (i := 1) rfl rfl ?_
    refine g_iconst C (gdec dt_X6_readTest 56 rfl) ic_0 ?_
    refine g_iload_n C (gdec dt_X6_readTest 57 rfl) (i := 2) rfl rfl ?_
    obtain ⟨q15, hq15, hf⟩ := Option.bind_eq_some_iff.mp hf
    refine g_invSs e_nil [.int x2] [.int (0 : Int32), .int x1, .ref 0] C (c_X6_mostTested l D cA _ (gInj_sub em_e_nil_shPR (gCi C)) (gsub q14.2 e_nil) x2 q15 hq15) em_e_nil_shPR (by decide) rfl kT_X6_mostTested kl_X6_145 kst_X6_mostTested rfl rfl ⟨by decide, by decide⟩ gk0 (Nat.le_of_ble_eq_true rfl) (gdec dt_X6_readTest 58 rfl) rfl (st2 := [.int q15, .int (0 : Int32), .int x1, .ref 0]) (w2 := q14.2) rfl (gput_sub _ _) ?_
    obtain ⟨q16, hq16, hf⟩ := Option.bind_eq_some_iff.mp hf
    refine g_invV [.int x1, .int (0 : Int32), .int q15] [] C (c_X6_readMuch l D cA _ (gCi C) q14.2 x1 (0 : Int32) q15 q16 hq16) kT_X6_readMuch kl_X6_86 kim_X6_readMuch kse_X6_readMuch rfl rfl (i := 0) rfl rfl ⟨by decide, by decide⟩ gk0 (Nat.le_of_ble_eq_true rfl) (gdec dt_X6_readTest 59 rfl) rfl (st2 := [.int q16.1]) rfl ?_
    obtain ⟨hb17, hf⟩ := gif hf
    cases hf
    exact g_zret C hb17 rfl (gdec dt_X6_readTest 60 rfl)
  · have hf := (if_pos hc12).symm.trans hf
    refine g_iconst C (gdec dt_X6_readTest 43 rfl) ic_0 ?_
    cases hf
    exact g_zret C (Or.inl rfl) rfl (gdec dt_X6_readTest 44 rfl)
set_option maxHeartbeats 4000000 in
set_option maxRecDepth 100000 in
theorem L_X6_readTest_32 {p : Program} {l : Launch} {e : Env} {s : State} {m : MethodId} {args : Array Value} {below : List Frame} {meth : Method} {c : Code} {D : va_G} {cA ad : Nat → Nat} {q : (Int32 × GW)} (C : gC p c cX6_readTest meth m s args 3 (some .boolean) RX6 D cA ad shPR) (x1 : Int32) (x2 : Int32) (w : GW) (hf : f_X6_readTest_32 x1 x2 w = some q) : gW p l e (gRm 4 186) s m args below meth c D cA ad shPR 3 0 0 (gQ below D cA ad shPR (some (.int q.1)) q.2 args s) 32 [(0, .ref 0), (1, .int x1), (2, .int x2)] [] w := by
  unfold f_X6_readTest_32 at hf
  refine g_aload_n C (gdec dt_X6_readTest 17 rfl) (i := 0) rfl rfl ?_
  refine g_getr C (j := 20) kf_X6_27 rfl rfl (gdec dt_X6_readTest 18 rfl) ?_
  refine g_getr C (j := 25) kf_X6_136 rfl rfl (gdec dt_X6_readTest 19 rfl) ?_
  refine g_iload_n C (gdec dt_X6_readTest 20 rfl) (i := 1) rfl rfl ?_
  refine g_iload_n C (gdec dt_X6_readTest 21 rfl) (i := 2) rfl rfl ?_
  obtain ⟨q6, hq6, hf⟩ := Option.bind_eq_some_iff.mp hf
  refine g_invS [.ref 25, .int x1, .int x2] [] C (c_X6_put l D cA _ (gCi C) 25 rfl w x1 x2 q6 hq6) kT_X6_put kl_X6_118 kst_X6_put rfl rfl ⟨by decide, by decide⟩ gk0 (Nat.le_of_ble_eq_true rfl) (gdec dt_X6_readTest 22 rfl) rfl (st2 := [.int q6.1]) rfl ?_
  refine g_pop C (gdec dt_X6_readTest 23 rfl) rfl ?_
  refine g_aload_n C (gdec dt_X6_readTest 24 rfl) (i := 0) rfl rfl ?_
  refine g_getr C (j := 2) kf_X6_19 rfl rfl (gdec dt_X6_readTest 25 rfl) ?_
  obtain ⟨q7, hq7, hf⟩ := Option.bind_eq_some_iff.mp hf
  refine g_invVs e_shPR_shT_2 [] [] C (c_X8_advance l D cA _ (gInj_sub em_e_shPR_shT_2 (gCi C)) (gsub q6.2 e_shPR_shT_2)  q7 hq7) em_e_shPR_shT_2 (by decide) rfl kT_X8_advance kl_X6_62 kim_X8_advance kse_X8_advance rfl rfl (i := 2) rfl rfl ⟨by decide, by decide⟩ gk0 (Nat.le_of_ble_eq_true rfl) (gdec dt_X6_readTest 26 rfl) rfl (st2 := []) (w2 := (gput q6.2 e_shPR_shT_2 q7)) rfl rfl ?_
  refine g_iload_n C (gdec dt_X6_readTest 27 rfl) (i := 2) rfl rfl ?_
  refine g_iconst C (gdec dt_X6_readTest 28 rfl) ic_1 ?_
  refine g_icmp_eq C (tgt := 74) (gdec dt_X6_readTest 29 rfl) (by decide) (fun hc8 => ?_) (fun hc8 => ?_)
  · have hf := (if_pos hc8).symm.trans hf
    refine g_sub [0, 1, 2] (lo2 := [(0, .ref 0), (1, .int x1), (2, .int x2)]) rfl ?_
    exact L_X6_readTest_74 C x1 x2 (gput q6.2 e_shPR_shT_2 q7) hf
  · have hf := (if_neg hc8).symm.trans hf
    refine g_aload_n C (gdec dt_X6_readTest 30 rfl) (i := 0) rfl rfl ?_
    refine g_aload_n C (gdec dt_X6_readTest 31 rfl) (i := 0) rfl rfl ?_
    refine g_getr C (j := 20) kf_X6_27 rfl rfl (gdec dt_X6_readTest 32 rfl) ?_
    refine g_getr C (j := 22) kf_X6_90 rfl rfl (gdec dt_X6_readTest 33 rfl) ?_
    refine g_iload_n C (gdec dt_X6_readTest 34 rfl) (i := 1) rfl rfl ?_
    obtain ⟨q9, hq9, hf⟩ := Option.bind_eq_some_iff.mp hf
    refine g_invV [.ref 22, .int x1] [] C (c_X6_readName l D cA _ (gCi C) 22 rfl (gput q6.2 e_shPR_shT_2 q7) x1 q9 hq9) kT_X6_readName kl_X6_93 kim_X6_readName kse_X6_readName rfl rfl (i := 0) rfl rfl ⟨by decide, by decide⟩ gk0 (Nat.le_of_ble_eq_true rfl) (gdec dt_X6_readTest 35 rfl) rfl (st2 := [.int q9.1]) rfl ?_
    refine g_if_ne C (tgt := 74) (gdec dt_X6_readTest 36 rfl) (by decide) (fun hc10 => ?_) (fun hc10 => ?_)
    · have hf := (if_neg hc10).symm.trans hf
      refine g_sub [0, 1, 2] (lo2 := [(0, .ref 0), (1, .int x1), (2, .int x2)]) rfl ?_
      exact L_X6_readTest_74 C x1 x2 q9.2 hf
    · have hf := (if_pos hc10).symm.trans hf
      refine g_iconst C (gdec dt_X6_readTest 37 rfl) ic_0 ?_
      cases hf
      exact g_zret C (Or.inl rfl) rfl (gdec dt_X6_readTest 38 rfl)
set_option maxHeartbeats 4000000 in
set_option maxRecDepth 100000 in
theorem c_X6_readTest (l : Launch) (D : va_G) (cA ad : Nat → Nat) (hin : gInj ad shPR.length) (w : GW) (x1 : Int32) (q : (Int32 × GW)) (hf : F_X6_readTest x1 w = some q) : gMet l yX6_readTest cX6_readTest 3 (some .boolean) 4 186 D cA ad shPR [.ref 0, .int x1] w (some (.int q.1)) q.2 := by
  refine g_entry (by decide) hin (Nat.le_of_ble_eq_true rfl) ?_
  intro p e s m args below meth c C
  unfold F_X6_readTest at hf
  show gW p l e (gRm 4 186) s m args below meth c D cA ad shPR 3 0 0 (gQ below D cA ad shPR (some (.int q.1)) q.2 args s) 0 [(0, .ref 0), (1, .int x1)] [] w
  refine g_aload_n C (gdec dt_X6_readTest 0 rfl) (i := 0) rfl rfl ?_
  refine g_getr C (j := 2) kf_X6_19 rfl rfl (gdec dt_X6_readTest 1 rfl) ?_
  refine g_geti C kf_X6_41 rfl rfl (gdec dt_X6_readTest 2 rfl) ?_
  refine g_istore_n C (gdec dt_X6_readTest 3 rfl) (i := 2) rfl (by decide) (lo2 := [(2, .int (w.1 2 2)), (0, .ref 0), (1, .int x1)]) rfl ?_
  refine g_iload_n C (gdec dt_X6_readTest 4 rfl) (i := 2) rfl rfl ?_
  refine g_iconst C (gdec dt_X6_readTest 5 rfl) ic_4 ?_
  refine g_icmp_eq C (tgt := 32) (gdec dt_X6_readTest 6 rfl) (by decide) (fun hc1 => ?_) (fun hc1 => ?_)
  · have hf := (if_pos hc1).symm.trans hf
    refine g_sub [1, 2, 0] (lo2 := [(0, .ref 0), (1, .int x1), (2, .int (w.1 2 2))]) rfl ?_
    exact L_X6_readTest_32 C x1 (w.1 2 2) w hf
  · have hf := (if_neg hc1).symm.trans hf
    refine g_iload_n C (gdec dt_X6_readTest 7 rfl) (i := 2) rfl rfl ?_
    refine g_bipush C (gdec dt_X6_readTest 8 rfl) bc_24 ?_
    refine g_icmp_eq C (tgt := 32) (gdec dt_X6_readTest 9 rfl) (by decide) (fun hc2 => ?_) (fun hc2 => ?_)
    · have hf := (if_pos hc2).symm.trans hf
      refine g_sub [1, 2, 0] (lo2 := [(0, .ref 0), (1, .int x1), (2, .int (w.1 2 2))]) rfl ?_
      exact L_X6_readTest_32 C x1 (w.1 2 2) w hf
    · have hf := (if_neg hc2).symm.trans hf
      refine g_iload_n C (gdec dt_X6_readTest 10 rfl) (i := 2) rfl rfl ?_
      refine g_iconst C (gdec dt_X6_readTest 11 rfl) ic_1 ?_
      refine g_icmp_eq C (tgt := 32) (gdec dt_X6_readTest 12 rfl) (by decide) (fun hc3 => ?_) (fun hc3 => ?_)
      · have hf := (if_pos hc3).symm.trans hf
        refine g_sub [1, 2, 0] (lo2 := [(0, .ref 0), (1, .int x1), (2, .int (w.1 2 2))]) rfl ?_
        exact L_X6_readTest_32 C x1 (w.1 2 2) w hf
      · have hf := (if_neg hc3).symm.trans hf
        refine g_aload_n C (gdec dt_X6_readTest 13 rfl) (i := 0) rfl rfl ?_
        refine g_getr C (j := 2) kf_X6_19 rfl rfl (gdec dt_X6_readTest 14 rfl) ?_
        obtain ⟨q4, hq4, hf⟩ := Option.bind_eq_some_iff.mp hf
        refine g_invVs e_shPR_shT_2 [] [] C (c_X8_failHere l D cA _ (gInj_sub em_e_shPR_shT_2 (gCi C)) (gsub w e_shPR_shT_2)  q4 hq4) em_e_shPR_shT_2 (by decide) rfl kT_X8_failHere kl_X6_55 kim_X8_failHere kse_X8_failHere rfl rfl (i := 2) rfl rfl ⟨by decide, by decide⟩ gk0 (Nat.le_of_ble_eq_true rfl) (gdec dt_X6_readTest 15 rfl) rfl (st2 := [.int q4.1]) (w2 := (gput w e_shPR_shT_2 q4.2)) rfl rfl ?_
        obtain ⟨hb5, hf⟩ := gif hf
        cases hf
        exact g_zret C hb5 rfl (gdec dt_X6_readTest 16 rfl)
set_option maxHeartbeats 4000000 in
set_option maxRecDepth 100000 in
theorem c_X6_readRest (l : Launch) (D : va_G) (cA ad : Nat → Nat) (hin : gInj ad shPR.length) (w : GW) (x1 : Int32) (x2 : Int32) (q : (Int32 × GW)) (hf : F_X6_readRest x1 x2 w = some q) : gMet l yX6_readRest cX6_readRest 3 (some .boolean) 5 208 D cA ad shPR [.ref 0, .int x1, .int x2] w (some (.int q.1)) q.2 := by
  refine g_entry (by decide) hin (Nat.le_of_ble_eq_true rfl) ?_
  intro p e s m args below meth c C
  unfold F_X6_readRest at hf
  show gW p l e (gRm 5 208) s m args below meth c D cA ad shPR 3 0 0 (gQ below D cA ad shPR (some (.int q.1)) q.2 args s) 0 [(0, .ref 0), (1, .int x1), (2, .int x2)] [] w
  refine g_iload_n C (gdec dt_X6_readRest 0 rfl) (i := 1) rfl rfl ?_
  by_cases hc1 : x1 = (15 : Int32)
  · have hf := (if_pos hc1).symm.trans hf
    refine g_tableIn C (tgt := 60) (off := 59) (gdec dt_X6_readRest 1 rfl) (by rw [hc1]; decide) (by rw [hc1]; decide) (by rw [hc1]; decide) (by decide) ?_
    refine g_aload_n C (gdec dt_X6_readRest 2 rfl) (i := 0) rfl rfl ?_
    refine g_iload_n C (gdec dt_X6_readRest 3 rfl) (i := 2) rfl rfl ?_
    refine g_iconst C (gdec dt_X6_readRest 4 rfl) ic_1 ?_
    refine g_bipush C (gdec dt_X6_readRest 5 rfl) bc_20 ?_
    obtain ⟨q2, hq2, hf⟩ := Option.bind_eq_some_iff.mp hf
    refine g_invV [.int x2, .int (1 : Int32), .int (20 : Int32)] [] C (c_X6_readMuch l D cA _ (gCi C) w x2 (1 : Int32) (20 : Int32) q2 hq2) kT_X6_readMuch kl_X6_86 kim_X6_readMuch kse_X6_readMuch rfl rfl (i := 0) rfl rfl ⟨by decide, by decide⟩ gk0 (Nat.le_of_ble_eq_true rfl) (gdec dt_X6_readRest 6 rfl) rfl (st2 := [.int q2.1]) rfl ?_
    obtain ⟨hb3, hf⟩ := gif hf
    cases hf
    exact g_zret C hb3 rfl (gdec dt_X6_readRest 7 rfl)
  replace hf := (if_neg hc1).symm.trans hf
  by_cases hc4 : x1 = (16 : Int32)
  · have hf := (if_pos hc4).symm.trans hf
    refine g_tableIn C (tgt := 69) (off := 68) (gdec dt_X6_readRest 1 rfl) (by rw [hc4]; decide) (by rw [hc4]; decide) (by rw [hc4]; decide) (by decide) ?_
    refine g_aload_n C (gdec dt_X6_readRest 8 rfl) (i := 0) rfl rfl ?_
    refine g_aload_n C (gdec dt_X6_readRest 9 rfl) (i := 0) rfl rfl ?_
    refine g_getr C (j := 20) kf_X6_27 rfl rfl (gdec dt_X6_readRest 10 rfl) ?_
    refine g_getr C (j := 22) kf_X6_90 rfl rfl (gdec dt_X6_readRest 11 rfl) ?_
    refine g_iload_n C (gdec dt_X6_readRest 12 rfl) (i := 2) rfl rfl ?_
    obtain ⟨q5, hq5, hf⟩ := Option.bind_eq_some_iff.mp hf
    refine g_invV [.ref 22, .int x2] [] C (c_X6_readName l D cA _ (gCi C) 22 rfl w x2 q5 hq5) kT_X6_readName kl_X6_93 kim_X6_readName kse_X6_readName rfl rfl (i := 0) rfl rfl ⟨by decide, by decide⟩ gk0 (Nat.le_of_ble_eq_true rfl) (gdec dt_X6_readRest 13 rfl) rfl (st2 := [.int q5.1]) rfl ?_
    refine g_if_eq C (tgt := 106) (gdec dt_X6_readRest 14 rfl) (by decide) (fun hc6 => ?_) (fun hc6 => ?_)
    · have hf := (if_pos hc6).symm.trans hf
      refine g_iconst C (gdec dt_X6_readRest 27 rfl) ic_0 ?_
      cases hf
      exact g_zret C (Or.inl rfl) rfl (gdec dt_X6_readRest 28 rfl)
    · have hf := (if_neg hc6).symm.trans hf
      refine g_aload_n C (gdec dt_X6_readRest 15 rfl) (i := 0) rfl rfl ?_
      refine g_iload_n C (gdec dt_X6_readRest 16 rfl) (i := 2) rfl rfl ?_
      refine g_iconst C (gdec dt_X6_readRest 17 rfl) ic_0 ?_
      refine g_aload_n C (gdec dt_X6_readRest 18 rfl) (i := 0) rfl rfl ?_
      refine g_getr C (j := 7) kf_X6_23 rfl rfl (gdec dt_X6_readRest 19 rfl) ?_
      refine g_geti C kf_X6_97 rfl rfl (gdec dt_X6_readRest 20 rfl) ?_
      refine g_iconst C (gdec dt_X6_readRest 21 rfl) ic_1 ?_
      refine g_isub C (gdec dt_X6_readRest 22 rfl) ?_
      obtain ⟨q7, hq7, hf⟩ := Option.bind_eq_some_iff.mp hf
      refine g_invV [.int x2, .int (0 : Int32), .int ((q5.2.1 7 3) - (1 : Int32))] [] C (c_X6_readMuch l D cA _ (gCi C) q5.2 x2 (0 : Int32) ((q5.2.1 7 3) - (1 : Int32)) q7 hq7) kT_X6_readMuch kl_X6_86 kim_X6_readMuch kse_X6_readMuch rfl rfl (i := 0) rfl rfl ⟨by decide, by decide⟩ gk0 (Nat.le_of_ble_eq_true rfl) (gdec dt_X6_readRest 23 rfl) rfl (st2 := [.int q7.1]) rfl ?_
      refine g_if_eq C (tgt := 106) (gdec dt_X6_readRest 24 rfl) (by decide) (fun hc8 => ?_) (fun hc8 => ?_)
      · have hf := (if_pos hc8).symm.trans hf
        refine g_iconst C (gdec dt_X6_readRest 27 rfl) ic_0 ?_
        cases hf
        exact g_zret C (Or.inl rfl) rfl (gdec dt_X6_readRest 28 rfl)
      · have hf := (if_neg hc8).symm.trans hf
        refine g_iconst C (gdec dt_X6_readRest 25 rfl) ic_1 ?_
        refine g_goto C (tgt := 107) (gdec dt_X6_readRest 26 rfl) (by decide) ?_
        cases hf
        exact g_zret C (Or.inr rfl) rfl (gdec dt_X6_readRest 28 rfl)
  replace hf := (if_neg hc4).symm.trans hf
  by_cases hc9 : x1 = (17 : Int32)
  · have hf := (if_pos hc9).symm.trans hf
    refine g_tableIn C (tgt := 108) (off := 107) (gdec dt_X6_readRest 1 rfl) (by rw [hc9]; decide) (by rw [hc9]; decide) (by rw [hc9]; decide) (by decide) ?_
    refine g_aload_n C (gdec dt_X6_readRest 29 rfl) (i := 0) rfl rfl ?_
    refine g_aload_n C (gdec dt_X6_readRest 30 rfl) (i := 0) rfl rfl ?_
    refine g_getr C (j := 20) kf_X6_27 rfl rfl (gdec dt_X6_readRest 31 rfl) ?_
    refine g_getr C (j := 22) kf_X6_90 rfl rfl (gdec dt_X6_readRest 32 rfl) ?_
    refine g_iload_n C (gdec dt_X6_readRest 33 rfl) (i := 2) rfl rfl ?_
    obtain ⟨q10, hq10, hf⟩ := Option.bind_eq_some_iff.mp hf
    refine g_invV [.ref 22, .int x2] [] C (c_X6_readName l D cA _ (gCi C) 22 rfl w x2 q10 hq10) kT_X6_readName kl_X6_93 kim_X6_readName kse_X6_readName rfl rfl (i := 0) rfl rfl ⟨by decide, by decide⟩ gk0 (Nat.le_of_ble_eq_true rfl) (gdec dt_X6_readRest 34 rfl) rfl (st2 := [.int q10.1]) rfl ?_
    refine g_if_eq C (tgt := 142) (gdec dt_X6_readRest 35 rfl) (by decide) (fun hc11 => ?_) (fun hc11 => ?_)
    · have hf := (if_pos hc11).symm.trans hf
      refine g_iconst C (gdec dt_X6_readRest 45 rfl) ic_0 ?_
      cases hf
      exact g_zret C (Or.inl rfl) rfl (gdec dt_X6_readRest 46 rfl)
    · have hf := (if_neg hc11).symm.trans hf
      refine g_aload_n C (gdec dt_X6_readRest 36 rfl) (i := 0) rfl rfl ?_
      refine g_aload_n C (gdec dt_X6_readRest 37 rfl) (i := 0) rfl rfl ?_
      refine g_getr C (j := 20) kf_X6_27 rfl rfl (gdec dt_X6_readRest 38 rfl) ?_
      refine g_getr C (j := 23) kf_X6_102 rfl rfl (gdec dt_X6_readRest 39 rfl) ?_
      refine g_iload_n C (gdec dt_X6_readRest 40 rfl) (i := 2) rfl rfl ?_
      obtain ⟨q12, hq12, hf⟩ := Option.bind_eq_some_iff.mp hf
      refine g_invV [.ref 23, .int x2] [] C (c_X6_readName l D cA _ (gCi C) 23 rfl q10.2 x2 q12 hq12) kT_X6_readName kl_X6_93 kim_X6_readName kse_X6_readName rfl rfl (i := 0) rfl rfl ⟨by decide, by decide⟩ gk0 (Nat.le_of_ble_eq_true rfl) (gdec dt_X6_readRest 41 rfl) rfl (st2 := [.int q12.1]) rfl ?_
      refine g_if_eq C (tgt := 142) (gdec dt_X6_readRest 42 rfl) (by decide) (fun hc13 => ?_) (fun hc13 => ?_)
      · have hf := (if_pos hc13).symm.trans hf
        refine g_iconst C (gdec dt_X6_readRest 45 rfl) ic_0 ?_
        cases hf
        exact g_zret C (Or.inl rfl) rfl (gdec dt_X6_readRest 46 rfl)
      · have hf := (if_neg hc13).symm.trans hf
        refine g_iconst C (gdec dt_X6_readRest 43 rfl) ic_1 ?_
        refine g_goto C (tgt := 143) (gdec dt_X6_readRest 44 rfl) (by decide) ?_
        cases hf
        exact g_zret C (Or.inr rfl) rfl (gdec dt_X6_readRest 46 rfl)
  replace hf := (if_neg hc9).symm.trans hf
  by_cases hc14 : x1 = (18 : Int32)
  · have hf := (if_pos hc14).symm.trans hf
    refine g_tableIn C (tgt := 144) (off := 143) (gdec dt_X6_readRest 1 rfl) (by rw [hc14]; decide) (by rw [hc14]; decide) (by rw [hc14]; decide) (by decide) ?_
    refine g_aload_n C (gdec dt_X6_readRest 47 rfl) (i := 0) rfl rfl ?_
    refine g_aload_n C (gdec dt_X6_readRest 48 rfl) (i := 0) rfl rfl ?_
    refine g_getr C (j := 20) kf_X6_27 rfl rfl (gdec dt_X6_readRest 49 rfl) ?_
    refine g_getr C (j := 22) kf_X6_90 rfl rfl (gdec dt_X6_readRest 50 rfl) ?_
    refine g_iload_n C (gdec dt_X6_readRest 51 rfl) (i := 2) rfl rfl ?_
    obtain ⟨q15, hq15, hf⟩ := Option.bind_eq_some_iff.mp hf
    refine g_invV [.ref 22, .int x2] [] C (c_X6_readName l D cA _ (gCi C) 22 rfl w x2 q15 hq15) kT_X6_readName kl_X6_93 kim_X6_readName kse_X6_readName rfl rfl (i := 0) rfl rfl ⟨by decide, by decide⟩ gk0 (Nat.le_of_ble_eq_true rfl) (gdec dt_X6_readRest 52 rfl) rfl (st2 := [.int q15.1]) rfl ?_
    refine g_if_eq C (tgt := 174) (gdec dt_X6_readRest 53 rfl) (by decide) (fun hc16 => ?_) (fun hc16 => ?_)
    · have hf := (if_pos hc16).symm.trans hf
      refine g_iconst C (gdec dt_X6_readRest 62 rfl) ic_0 ?_
      cases hf
      exact g_zret C (Or.inl rfl) rfl (gdec dt_X6_readRest 63 rfl)
    · have hf := (if_neg hc16).symm.trans hf
      refine g_aload_n C (gdec dt_X6_readRest 54 rfl) (i := 0) rfl rfl ?_
      refine g_iload_n C (gdec dt_X6_readRest 55 rfl) (i := 2) rfl rfl ?_
      refine g_iconst C (gdec dt_X6_readRest 56 rfl) ic_1 ?_
      refine g_bipush C (gdec dt_X6_readRest 57 rfl) bc_50 ?_
      obtain ⟨q17, hq17, hf⟩ := Option.bind_eq_some_iff.mp hf
      refine g_invV [.int x2, .int (1 : Int32), .int (50 : Int32)] [] C (c_X6_readMuch l D cA _ (gCi C) q15.2 x2 (1 : Int32) (50 : Int32) q17 hq17) kT_X6_readMuch kl_X6_86 kim_X6_readMuch kse_X6_readMuch rfl rfl (i := 0) rfl rfl ⟨by decide, by decide⟩ gk0 (Nat.le_of_ble_eq_true rfl) (gdec dt_X6_readRest 58 rfl) rfl (st2 := [.int q17.1]) rfl ?_
      refine g_if_eq C (tgt := 174) (gdec dt_X6_readRest 59 rfl) (by decide) (fun hc18 => ?_) (fun hc18 => ?_)
      · have hf := (if_pos hc18).symm.trans hf
        refine g_iconst C (gdec dt_X6_readRest 62 rfl) ic_0 ?_
        cases hf
        exact g_zret C (Or.inl rfl) rfl (gdec dt_X6_readRest 63 rfl)
      · have hf := (if_neg hc18).symm.trans hf
        refine g_iconst C (gdec dt_X6_readRest 60 rfl) ic_1 ?_
        refine g_goto C (tgt := 175) (gdec dt_X6_readRest 61 rfl) (by decide) ?_
        cases hf
        exact g_zret C (Or.inr rfl) rfl (gdec dt_X6_readRest 63 rfl)
  replace hf := (if_neg hc14).symm.trans hf
  by_cases hc19 : x1 = (19 : Int32)
  · have hf := (if_pos hc19).symm.trans hf
    refine g_tableIn C (tgt := 176) (off := 175) (gdec dt_X6_readRest 1 rfl) (by rw [hc19]; decide) (by rw [hc19]; decide) (by rw [hc19]; decide) (by decide) ?_
    refine g_aload_n C (gdec dt_X6_readRest 64 rfl) (i := 0) rfl rfl ?_
    refine g_aload_n C (gdec dt_X6_readRest 65 rfl) (i := 0) rfl rfl ?_
    refine g_getr C (j := 20) kf_X6_27 rfl rfl (gdec dt_X6_readRest 66 rfl) ?_
    refine g_getr C (j := 22) kf_X6_90 rfl rfl (gdec dt_X6_readRest 67 rfl) ?_
    refine g_iload_n C (gdec dt_X6_readRest 68 rfl) (i := 2) rfl rfl ?_
    obtain ⟨q20, hq20, hf⟩ := Option.bind_eq_some_iff.mp hf
    refine g_invV [.ref 22, .int x2] [] C (c_X6_readName l D cA _ (gCi C) 22 rfl w x2 q20 hq20) kT_X6_readName kl_X6_93 kim_X6_readName kse_X6_readName rfl rfl (i := 0) rfl rfl ⟨by decide, by decide⟩ gk0 (Nat.le_of_ble_eq_true rfl) (gdec dt_X6_readRest 69 rfl) rfl (st2 := [.int q20.1]) rfl ?_
    obtain ⟨hb21, hf⟩ := gif hf
    cases hf
    exact g_zret C hb21 rfl (gdec dt_X6_readRest 70 rfl)
  replace hf := (if_neg hc19).symm.trans hf
  by_cases hc22 : x1 = (20 : Int32)
  · have hf := (if_pos hc22).symm.trans hf
    refine g_tableIn C (tgt := 176) (off := 175) (gdec dt_X6_readRest 1 rfl) (by rw [hc22]; decide) (by rw [hc22]; decide) (by rw [hc22]; decide) (by decide) ?_
    refine g_aload_n C (gdec dt_X6_readRest 64 rfl) (i := 0) rfl rfl ?_
    refine g_aload_n C (gdec dt_X6_readRest 65 rfl) (i := 0) rfl rfl ?_
    refine g_getr C (j := 20) kf_X6_27 rfl rfl (gdec dt_X6_readRest 66 rfl) ?_
    refine g_getr C (j := 22) kf_X6_90 rfl rfl (gdec dt_X6_readRest 67 rfl) ?_
    refine g_iload_n C (gdec dt_X6_readRest 68 rfl) (i := 2) rfl rfl ?_
    obtain ⟨q23, hq23, hf⟩ := Option.bind_eq_some_iff.mp hf
    refine g_invV [.ref 22, .int x2] [] C (c_X6_readName l D cA _ (gCi C) 22 rfl w x2 q23 hq23) kT_X6_readName kl_X6_93 kim_X6_readName kse_X6_readName rfl rfl (i := 0) rfl rfl ⟨by decide, by decide⟩ gk0 (Nat.le_of_ble_eq_true rfl) (gdec dt_X6_readRest 69 rfl) rfl (st2 := [.int q23.1]) rfl ?_
    obtain ⟨hb24, hf⟩ := gif hf
    cases hf
    exact g_zret C hb24 rfl (gdec dt_X6_readRest 70 rfl)
  replace hf := (if_neg hc22).symm.trans hf
  by_cases hc25 : x1 = (21 : Int32)
  · have hf := (if_pos hc25).symm.trans hf
    refine g_tableIn C (tgt := 204) (off := 203) (gdec dt_X6_readRest 1 rfl) (by rw [hc25]; decide) (by rw [hc25]; decide) (by rw [hc25]; decide) (by decide) ?_
    refine g_iconst C (gdec dt_X6_readRest 81 rfl) ic_1 ?_
    cases hf
    exact g_zret C (Or.inr rfl) rfl (gdec dt_X6_readRest 82 rfl)
  replace hf := (if_neg hc25).symm.trans hf
  by_cases hc26 : x1 = (22 : Int32)
  · have hf := (if_pos hc26).symm.trans hf
    refine g_tableIn C (tgt := 204) (off := 203) (gdec dt_X6_readRest 1 rfl) (by rw [hc26]; decide) (by rw [hc26]; decide) (by rw [hc26]; decide) (by decide) ?_
    refine g_iconst C (gdec dt_X6_readRest 81 rfl) ic_1 ?_
    cases hf
    exact g_zret C (Or.inr rfl) rfl (gdec dt_X6_readRest 82 rfl)
  replace hf := (if_neg hc26).symm.trans hf
  by_cases hc27 : x1 = (23 : Int32)
  · have hf := (if_pos hc27).symm.trans hf
    refine g_tableIn C (tgt := 189) (off := 188) (gdec dt_X6_readRest 1 rfl) (by rw [hc27]; decide) (by rw [hc27]; decide) (by rw [hc27]; decide) (by decide) ?_
    refine g_aload_n C (gdec dt_X6_readRest 71 rfl) (i := 0) rfl rfl ?_
    refine g_iload_n C (gdec dt_X6_readRest 72 rfl) (i := 2) rfl rfl ?_
    obtain ⟨q28, hq28, hf⟩ := Option.bind_eq_some_iff.mp hf
    refine g_invV [.int x2] [] C (c_X6_readTest l D cA _ (gCi C) w x2 q28 hq28) kT_X6_readTest kl_X6_105 kim_X6_readTest kse_X6_readTest rfl rfl (i := 0) rfl rfl ⟨by decide, by decide⟩ gk0 (Nat.le_of_ble_eq_true rfl) (gdec dt_X6_readRest 73 rfl) rfl (st2 := [.int q28.1]) rfl ?_
    obtain ⟨hb29, hf⟩ := gif hf
    cases hf
    exact g_zret C hb29 rfl (gdec dt_X6_readRest 74 rfl)
  replace hf := (if_neg hc27).symm.trans hf
  by_cases hc30 : x1 = (24 : Int32)
  · have hf := (if_pos hc30).symm.trans hf
    refine g_tableIn C (tgt := 204) (off := 203) (gdec dt_X6_readRest 1 rfl) (by rw [hc30]; decide) (by rw [hc30]; decide) (by rw [hc30]; decide) (by decide) ?_
    refine g_iconst C (gdec dt_X6_readRest 81 rfl) ic_1 ?_
    cases hf
    exact g_zret C (Or.inr rfl) rfl (gdec dt_X6_readRest 82 rfl)
  replace hf := (if_neg hc30).symm.trans hf
  by_cases hc31 : x1 = (25 : Int32)
  · have hf := (if_pos hc31).symm.trans hf
    refine g_tableIn C (tgt := 195) (off := 194) (gdec dt_X6_readRest 1 rfl) (by rw [hc31]; decide) (by rw [hc31]; decide) (by rw [hc31]; decide) (by decide) ?_
    refine g_aload_n C (gdec dt_X6_readRest 75 rfl) (i := 0) rfl rfl ?_
    refine g_iload_n C (gdec dt_X6_readRest 76 rfl) (i := 2) rfl rfl ?_
    refine g_iconst C (gdec dt_X6_readRest 77 rfl) ic_1 ?_
    refine g_bipush C (gdec dt_X6_readRest 78 rfl) bc_99 ?_
    obtain ⟨q32, hq32, hf⟩ := Option.bind_eq_some_iff.mp hf
    refine g_invV [.int x2, .int (1 : Int32), .int (99 : Int32)] [] C (c_X6_readMuch l D cA _ (gCi C) w x2 (1 : Int32) (99 : Int32) q32 hq32) kT_X6_readMuch kl_X6_86 kim_X6_readMuch kse_X6_readMuch rfl rfl (i := 0) rfl rfl ⟨by decide, by decide⟩ gk0 (Nat.le_of_ble_eq_true rfl) (gdec dt_X6_readRest 79 rfl) rfl (st2 := [.int q32.1]) rfl ?_
    obtain ⟨hb33, hf⟩ := gif hf
    cases hf
    exact g_zret C hb33 rfl (gdec dt_X6_readRest 80 rfl)
  replace hf := (if_neg hc31).symm.trans hf
  refine g_tableOut C (tgt := 204) (gdec dt_X6_readRest 1 rfl) (gtsw_out (fun j hj => ?_)) (by decide) ?_
  · match j, hj with
    | 0, _ => exact lv_neT hc1 (by decide)
    | 1, _ => exact lv_neT hc4 (by decide)
    | 2, _ => exact lv_neT hc9 (by decide)
    | 3, _ => exact lv_neT hc14 (by decide)
    | 4, _ => exact lv_neT hc19 (by decide)
    | 5, _ => exact lv_neT hc22 (by decide)
    | 6, _ => exact lv_neT hc25 (by decide)
    | 7, _ => exact lv_neT hc26 (by decide)
    | 8, _ => exact lv_neT hc27 (by decide)
    | 9, _ => exact lv_neT hc30 (by decide)
    | 10, _ => exact lv_neT hc31 (by decide)
    | j + 11, hj => exact absurd hj (by simp)
  refine g_iconst C (gdec dt_X6_readRest 81 rfl) ic_1 ?_
  cases hf
  exact g_zret C (Or.inr rfl) rfl (gdec dt_X6_readRest 82 rfl)
set_option maxHeartbeats 4000000 in
set_option maxRecDepth 100000 in
theorem L_X6_readStep_38 {p : Program} {l : Launch} {e : Env} {s : State} {m : MethodId} {args : Array Value} {below : List Frame} {meth : Method} {c : Code} {D : va_G} {cA ad : Nat → Nat} {q : (Int32 × GW)} (C : gC p c cX6_readStep meth m s args 4 (some .boolean) RX6 D cA ad shPR) (w : GW) (hf : f_X6_readStep_38 w = some q) : gW p l e (gRm 6 230) s m args below meth c D cA ad shPR 4 0 0 (gQ below D cA ad shPR (some (.int q.1)) q.2 args s) 38 [(0, .ref 0)] [] w := by
  unfold f_X6_readStep_38 at hf
  refine g_aload_n C (gdec dt_X6_readStep 20 rfl) (i := 0) rfl rfl ?_
  refine g_getr C (j := 2) kf_X6_19 rfl rfl (gdec dt_X6_readStep 21 rfl) ?_
  obtain ⟨q12, hq12, hf⟩ := Option.bind_eq_some_iff.mp hf
  refine g_invVs e_shPR_shT_2 [] [] C (c_X8_failHere l D cA _ (gInj_sub em_e_shPR_shT_2 (gCi C)) (gsub w e_shPR_shT_2)  q12 hq12) em_e_shPR_shT_2 (by decide) rfl kT_X8_failHere kl_X6_55 kim_X8_failHere kse_X8_failHere rfl rfl (i := 2) rfl rfl ⟨by decide, by decide⟩ gk0 (Nat.le_of_ble_eq_true rfl) (gdec dt_X6_readStep 22 rfl) rfl (st2 := [.int q12.1]) (w2 := (gput w e_shPR_shT_2 q12.2)) rfl rfl ?_
  obtain ⟨hb13, hf⟩ := gif hf
  cases hf
  exact g_zret C hb13 rfl (gdec dt_X6_readStep 23 rfl)
set_option maxHeartbeats 4000000 in
set_option maxRecDepth 100000 in
theorem L_X6_readStep_130 {p : Program} {l : Launch} {e : Env} {s : State} {m : MethodId} {args : Array Value} {below : List Frame} {meth : Method} {c : Code} {D : va_G} {cA ad : Nat → Nat} {q : (Int32 × GW)} (C : gC p c cX6_readStep meth m s args 4 (some .boolean) RX6 D cA ad shPR) (x1 : Int32) (x3 : Int32) (w : GW) (hf : f_X6_readStep_130 x1 x3 w = some q) : gW p l e (gRm 6 230) s m args below meth c D cA ad shPR 4 0 0 (gQ below D cA ad shPR (some (.int q.1)) q.2 args s) 130 [(0, .ref 0), (1, .int x1), (3, .int x3)] [] w := by
  unfold f_X6_readStep_130 at hf
  refine g_aload_n C (gdec dt_X6_readStep 67 rfl) (i := 0) rfl rfl ?_
  refine g_getr C (j := 2) kf_X6_19 rfl rfl (gdec dt_X6_readStep 68 rfl) ?_
  obtain ⟨q18, hq18, hf⟩ := Option.bind_eq_some_iff.mp hf
  refine g_invVs e_shPR_shT_2 [] [] C (c_X8_advance l D cA _ (gInj_sub em_e_shPR_shT_2 (gCi C)) (gsub w e_shPR_shT_2)  q18 hq18) em_e_shPR_shT_2 (by decide) rfl kT_X8_advance kl_X6_62 kim_X8_advance kse_X8_advance rfl rfl (i := 2) rfl rfl ⟨by decide, by decide⟩ gk0 (Nat.le_of_ble_eq_true rfl) (gdec dt_X6_readStep 69 rfl) rfl (st2 := []) (w2 := (gput w e_shPR_shT_2 q18)) rfl rfl ?_
  refine g_aload_n C (gdec dt_X6_readStep 70 rfl) (i := 0) rfl rfl ?_
  refine g_getr C (j := 20) kf_X6_27 rfl rfl (gdec dt_X6_readStep 71 rfl) ?_
  refine g_iload_n C (gdec dt_X6_readStep 72 rfl) (i := 3) rfl rfl ?_
  obtain ⟨q19, hq19, hf⟩ := Option.bind_eq_some_iff.mp hf
  refine g_invVs e_shPR_shP_20 [.int x3] [] C (c_X5_hasStep l D cA _ (gInj_sub em_e_shPR_shP_20 (gCi C)) (gsub (gput w e_shPR_shT_2 q18) e_shPR_shP_20) x3 q19 hq19) em_e_shPR_shP_20 (by decide) rfl kT_X5_hasStep kl_X6_79 kim_X5_hasStep kse_X5_hasStep rfl rfl (i := 20) rfl rfl ⟨by decide, by decide⟩ gk0 (Nat.le_of_ble_eq_true rfl) (gdec dt_X6_readStep 73 rfl) rfl (st2 := [.int q19]) (w2 := (gput w e_shPR_shT_2 q18)) rfl (gput_sub _ _) ?_
  refine g_if_eq C (tgt := 171) (gdec dt_X6_readStep 74 rfl) (by decide) (fun hc20 => ?_) (fun hc20 => ?_)
  · have hf := (if_pos hc20).symm.trans hf
    refine g_iconst C (gdec dt_X6_readStep 86 rfl) ic_0 ?_
    cases hf
    exact g_zret C (Or.inl rfl) rfl (gdec dt_X6_readStep 87 rfl)
  · have hf := (if_neg hc20).symm.trans hf
    refine g_aload_n C (gdec dt_X6_readStep 75 rfl) (i := 0) rfl rfl ?_
    refine g_iload_n C (gdec dt_X6_readStep 76 rfl) (i := 1) rfl rfl ?_
    refine g_iload_n C (gdec dt_X6_readStep 77 rfl) (i := 3) rfl rfl ?_
    obtain ⟨q21, hq21, hf⟩ := Option.bind_eq_some_iff.mp hf
    refine g_invV [.int x1, .int x3] [] C (c_X6_readRest l D cA _ (gCi C) (gput w e_shPR_shT_2 q18) x1 x3 q21 hq21) kT_X6_readRest kl_X6_82 kim_X6_readRest kse_X6_readRest rfl rfl (i := 0) rfl rfl ⟨by decide, by decide⟩ gk0 (Nat.le_of_ble_eq_true rfl) (gdec dt_X6_readStep 78 rfl) rfl (st2 := [.int q21.1]) rfl ?_
    refine g_if_eq C (tgt := 171) (gdec dt_X6_readStep 79 rfl) (by decide) (fun hc22 => ?_) (fun hc22 => ?_)
    · have hf := (if_pos hc22).symm.trans hf
      refine g_iconst C (gdec dt_X6_readStep 86 rfl) ic_0 ?_
      cases hf
      exact g_zret C (Or.inl rfl) rfl (gdec dt_X6_readStep 87 rfl)
    · have hf := (if_neg hc22).symm.trans hf
      refine g_aload_n C (gdec dt_X6_readStep 80 rfl) (i := 0) rfl rfl ?_
      refine g_getr C (j := 2) kf_X6_19 rfl rfl (gdec dt_X6_readStep 81 rfl) ?_
      obtain ⟨q23, hq23, hf⟩ := Option.bind_eq_some_iff.mp hf
      refine g_invVs e_shPR_shT_2 [] [] C (c_X8_passSemicolon l D cA _ (gInj_sub em_e_shPR_shT_2 (gCi C)) (gsub q21.2 e_shPR_shT_2)  q23 hq23) em_e_shPR_shT_2 (by decide) rfl kT_X8_passSemicolon kl_X6_65 kim_X8_passSemicolon kse_X8_passSemicolon rfl rfl (i := 2) rfl rfl ⟨by decide, by decide⟩ gk0 (Nat.le_of_ble_eq_true rfl) (gdec dt_X6_readStep 82 rfl) rfl (st2 := [.int q23.1]) (w2 := (gput q21.2 e_shPR_shT_2 q23.2)) rfl rfl ?_
      refine g_if_eq C (tgt := 171) (gdec dt_X6_readStep 83 rfl) (by decide) (fun hc24 => ?_) (fun hc24 => ?_)
      · have hf := (if_pos hc24).symm.trans hf
        refine g_iconst C (gdec dt_X6_readStep 86 rfl) ic_0 ?_
        cases hf
        exact g_zret C (Or.inl rfl) rfl (gdec dt_X6_readStep 87 rfl)
      · have hf := (if_neg hc24).symm.trans hf
        refine g_iconst C (gdec dt_X6_readStep 84 rfl) ic_1 ?_
        refine g_goto C (tgt := 172) (gdec dt_X6_readStep 85 rfl) (by decide) ?_
        cases hf
        exact g_zret C (Or.inr rfl) rfl (gdec dt_X6_readStep 87 rfl)
set_option maxHeartbeats 4000000 in
set_option maxRecDepth 100000 in
theorem L_X6_readStep_90 {p : Program} {l : Launch} {e : Env} {s : State} {m : MethodId} {args : Array Value} {below : List Frame} {meth : Method} {c : Code} {D : va_G} {cA ad : Nat → Nat} {q : (Int32 × GW)} (C : gC p c cX6_readStep meth m s args 4 (some .boolean) RX6 D cA ad shPR) (x1 : Int32) (x2 : Int32) (w : GW) (hf : f_X6_readStep_90 x1 x2 w = some q) : gW p l e (gRm 6 230) s m args below meth c D cA ad shPR 4 0 0 (gQ below D cA ad shPR (some (.int q.1)) q.2 args s) 90 [(0, .ref 0), (1, .int x1), (2, .int x2)] [] w := by
  unfold f_X6_readStep_90 at hf
  refine g_aload_n C (gdec dt_X6_readStep 45 rfl) (i := 0) rfl rfl ?_
  refine g_getr C (j := 20) kf_X6_27 rfl rfl (gdec dt_X6_readStep 46 rfl) ?_
  refine g_iload_n C (gdec dt_X6_readStep 47 rfl) (i := 1) rfl rfl ?_
  obtain ⟨q14, hq14, hf⟩ := Option.bind_eq_some_iff.mp hf
  refine g_invVs e_shPR_shP_20 [.int x1] [] C (c_X5_addStep l D cA _ (gInj_sub em_e_shPR_shP_20 (gCi C)) (gsub w e_shPR_shP_20) x1 q14 hq14) em_e_shPR_shP_20 (by decide) rfl kT_X5_addStep kl_X6_75 kim_X5_addStep kse_X5_addStep rfl rfl (i := 20) rfl rfl ⟨by decide, by decide⟩ gk0 (Nat.le_of_ble_eq_true rfl) (gdec dt_X6_readStep 48 rfl) rfl (st2 := [.int q14.1]) (w2 := (gput w e_shPR_shP_20 q14.2)) rfl rfl ?_
  refine g_istore_n C (gdec dt_X6_readStep 49 rfl) (i := 3) rfl (by decide) (lo2 := [(3, .int q14.1), (0, .ref 0), (1, .int x1), (2, .int x2)]) rfl ?_
  refine g_iload_n C (gdec dt_X6_readStep 50 rfl) (i := 2) rfl rfl ?_
  refine g_if_eq C (tgt := 130) (gdec dt_X6_readStep 51 rfl) (by decide) (fun hc15 => ?_) (fun hc15 => ?_)
  · have hf := (if_pos hc15).symm.trans hf
    refine g_sub [1, 2, 0] (lo2 := [(0, .ref 0), (1, .int x1), (3, .int q14.1)]) rfl ?_
    exact L_X6_readStep_130 C x1 q14.1 (gput w e_shPR_shP_20 q14.2) hf
  · have hf := (if_neg hc15).symm.trans hf
    refine g_aload_n C (gdec dt_X6_readStep 52 rfl) (i := 0) rfl rfl ?_
    refine g_getiv C kf_X6_15 rfl rfl (gdec dt_X6_readStep 53 rfl) (v := (w.1 0 4)) rfl ?_
    refine g_if_lt C (tgt := 130) (gdec dt_X6_readStep 54 rfl) (by decide) (fun hc16 => ?_) (fun hc16 => ?_)
    · have hf := (if_pos hc16).symm.trans hf
      refine g_sub [1, 2, 0] (lo2 := [(0, .ref 0), (1, .int x1), (3, .int q14.1)]) rfl ?_
      exact L_X6_readStep_130 C x1 q14.1 (gput w e_shPR_shP_20 q14.2) hf
    · have hf := (if_neg hc16).symm.trans hf
      refine g_aload_n C (gdec dt_X6_readStep 55 rfl) (i := 0) rfl rfl ?_
      refine g_getr C (j := 1) kf_X6_9 rfl rfl (gdec dt_X6_readStep 56 rfl) ?_
      refine g_aload_n C (gdec dt_X6_readStep 57 rfl) (i := 0) rfl rfl ?_
      refine g_getiv C kf_X6_15 rfl rfl (gdec dt_X6_readStep 58 rfl) (v := (w.1 0 4)) rfl ?_
      refine g_iload_n C (gdec dt_X6_readStep 59 rfl) (i := 3) rfl rfl ?_
      obtain ⟨hg17, hf⟩ := gif hf
      refine g_iast C (i := 1) rfl hg17 rfl (gdec dt_X6_readStep 60 rfl) ?_
      refine g_aload_n C (gdec dt_X6_readStep 61 rfl) (i := 0) rfl rfl ?_
      refine g_dup C (gdec dt_X6_readStep 62 rfl) rfl ?_
      refine g_getiv C kf_X6_15 rfl rfl (gdec dt_X6_readStep 63 rfl) (v := (w.1 0 4)) rfl ?_
      refine g_iconst C (gdec dt_X6_readStep 64 rfl) ic_1 ?_
      refine g_iadd C (gdec dt_X6_readStep 65 rfl) ?_
      refine g_puti C kf_X6_15 rfl rfl (gdec dt_X6_readStep 66 rfl) ?_
      refine g_sub [1, 2, 0] (lo2 := [(0, .ref 0), (1, .int x1), (3, .int q14.1)]) rfl ?_
      exact L_X6_readStep_130 C x1 q14.1 (gI (gI (gput w e_shPR_shP_20 q14.2) 1 (w.1 0 4).toNatClampNeg q14.1) 0 4 ((w.1 0 4) + (1 : Int32))) hf
set_option maxHeartbeats 4000000 in
set_option maxRecDepth 100000 in
theorem L_X6_readStep_25 {p : Program} {l : Launch} {e : Env} {s : State} {m : MethodId} {args : Array Value} {below : List Frame} {meth : Method} {c : Code} {D : va_G} {cA ad : Nat → Nat} {q : (Int32 × GW)} (C : gC p c cX6_readStep meth m s args 4 (some .boolean) RX6 D cA ad shPR) (x1 : Int32) (s0 : Int32) (w : GW) (hf : f_X6_readStep_25 x1 s0 w = some q) : gW p l e (gRm 6 230) s m args below meth c D cA ad shPR 4 0 0 (gQ below D cA ad shPR (some (.int q.1)) q.2 args s) 25 [(0, .ref 0), (1, .int x1)] [.int s0] w := by
  unfold f_X6_readStep_25 at hf
  refine g_istore_n C (gdec dt_X6_readStep 13 rfl) (i := 2) rfl (by decide) (lo2 := [(2, .int s0), (0, .ref 0), (1, .int x1)]) rfl ?_
  refine g_iload_n C (gdec dt_X6_readStep 14 rfl) (i := 1) rfl rfl ?_
  refine g_bipush C (gdec dt_X6_readStep 15 rfl) bc_15 ?_
  refine g_icmp_lt C (tgt := 38) (gdec dt_X6_readStep 16 rfl) (by decide) (fun hc3 => ?_) (fun hc3 => ?_)
  · have hf := (if_pos hc3).symm.trans hf
    refine g_sub [1] (lo2 := [(0, .ref 0)]) rfl ?_
    exact L_X6_readStep_38 C w hf
  · have hf := (if_neg hc3).symm.trans hf
    refine g_iload_n C (gdec dt_X6_readStep 17 rfl) (i := 1) rfl rfl ?_
    refine g_bipush C (gdec dt_X6_readStep 18 rfl) bc_24 ?_
    refine g_icmp_ne C (tgt := 46) (gdec dt_X6_readStep 19 rfl) (by decide) (fun hc4 => ?_) (fun hc4 => ?_)
    · have hf := (if_neg hc4).symm.trans hf
      refine g_aload_n C (gdec dt_X6_readStep 24 rfl) (i := 0) rfl rfl ?_
      refine g_getr C (j := 20) kf_X6_27 rfl rfl (gdec dt_X6_readStep 25 rfl) ?_
      refine g_geti C kf_X6_68 rfl rfl (gdec dt_X6_readStep 26 rfl) ?_
      refine g_bipush C (gdec dt_X6_readStep 27 rfl) bc_30 ?_
      refine g_icmp_lt C (tgt := 68) (gdec dt_X6_readStep 28 rfl) (by decide) (fun hc5 => ?_) (fun hc5 => ?_)
      · have hf := (if_pos hc5).symm.trans hf
        refine g_iload_n C (gdec dt_X6_readStep 34 rfl) (i := 2) rfl rfl ?_
        refine g_if_eq C (tgt := 90) (gdec dt_X6_readStep 35 rfl) (by decide) (fun hc6 => ?_) (fun hc6 => ?_)
        · have hf := (if_pos hc6).symm.trans hf
          refine g_sub [1, 2, 0] (lo2 := [(0, .ref 0), (1, .int x1), (2, .int s0)]) rfl ?_
          exact L_X6_readStep_90 C x1 s0 w hf
        · have hf := (if_neg hc6).symm.trans hf
          refine g_aload_n C (gdec dt_X6_readStep 36 rfl) (i := 0) rfl rfl ?_
          refine g_geti C kf_X6_15 rfl rfl (gdec dt_X6_readStep 37 rfl) ?_
          refine g_iconst C (gdec dt_X6_readStep 38 rfl) ic_3 ?_
          refine g_icmp_lt C (tgt := 90) (gdec dt_X6_readStep 39 rfl) (by decide) (fun hc7 => ?_) (fun hc7 => ?_)
          · have hf := (if_pos hc7).symm.trans hf
            refine g_sub [1, 2, 0] (lo2 := [(0, .ref 0), (1, .int x1), (2, .int s0)]) rfl ?_
            exact L_X6_readStep_90 C x1 s0 w hf
          · have hf := (if_neg hc7).symm.trans hf
            refine g_aload_n C (gdec dt_X6_readStep 40 rfl) (i := 0) rfl rfl ?_
            refine g_getr C (j := 2) kf_X6_19 rfl rfl (gdec dt_X6_readStep 41 rfl) ?_
            refine g_bipush C (gdec dt_X6_readStep 42 rfl) bc_7 ?_
            obtain ⟨q8, hq8, hf⟩ := Option.bind_eq_some_iff.mp hf
            refine g_invVs e_shPR_shT_2 [.int (7 : Int32)] [] C (c_X8_fail l D cA _ (gInj_sub em_e_shPR_shT_2 (gCi C)) (gsub w e_shPR_shT_2) (7 : Int32) q8 hq8) em_e_shPR_shT_2 (by decide) rfl kT_X8_fail kl_X6_71 kim_X8_fail kse_X8_fail rfl rfl (i := 2) rfl rfl ⟨by decide, by decide⟩ gk0 (Nat.le_of_ble_eq_true rfl) (gdec dt_X6_readStep 43 rfl) rfl (st2 := [.int q8.1]) (w2 := (gput w e_shPR_shT_2 q8.2)) rfl rfl ?_
            obtain ⟨hb9, hf⟩ := gif hf
            cases hf
            exact g_zret C hb9 rfl (gdec dt_X6_readStep 44 rfl)
      · have hf := (if_neg hc5).symm.trans hf
        refine g_aload_n C (gdec dt_X6_readStep 29 rfl) (i := 0) rfl rfl ?_
        refine g_getr C (j := 2) kf_X6_19 rfl rfl (gdec dt_X6_readStep 30 rfl) ?_
        refine g_bipush C (gdec dt_X6_readStep 31 rfl) bc_6 ?_
        obtain ⟨q10, hq10, hf⟩ := Option.bind_eq_some_iff.mp hf
        refine g_invVs e_shPR_shT_2 [.int (6 : Int32)] [] C (c_X8_fail l D cA _ (gInj_sub em_e_shPR_shT_2 (gCi C)) (gsub w e_shPR_shT_2) (6 : Int32) q10 hq10) em_e_shPR_shT_2 (by decide) rfl kT_X8_fail kl_X6_71 kim_X8_fail kse_X8_fail rfl rfl (i := 2) rfl rfl ⟨by decide, by decide⟩ gk0 (Nat.le_of_ble_eq_true rfl) (gdec dt_X6_readStep 32 rfl) rfl (st2 := [.int q10.1]) (w2 := (gput w e_shPR_shT_2 q10.2)) rfl rfl ?_
        obtain ⟨hb11, hf⟩ := gif hf
        cases hf
        exact g_zret C hb11 rfl (gdec dt_X6_readStep 33 rfl)
    · have hf := (if_pos hc4).symm.trans hf
      refine g_sub [1] (lo2 := [(0, .ref 0)]) rfl ?_
      exact L_X6_readStep_38 C w hf
set_option maxHeartbeats 4000000 in
set_option maxRecDepth 100000 in
theorem L_X6_readStep_20 {p : Program} {l : Launch} {e : Env} {s : State} {m : MethodId} {args : Array Value} {below : List Frame} {meth : Method} {c : Code} {D : va_G} {cA ad : Nat → Nat} {q : (Int32 × GW)} (C : gC p c cX6_readStep meth m s args 4 (some .boolean) RX6 D cA ad shPR) (x1 : Int32) (w : GW) (hf : f_X6_readStep_20 x1 w = some q) : gW p l e (gRm 6 230) s m args below meth c D cA ad shPR 4 0 0 (gQ below D cA ad shPR (some (.int q.1)) q.2 args s) 20 [(0, .ref 0), (1, .int x1)] [] w := by
  unfold f_X6_readStep_20 at hf
  refine g_iconst C (gdec dt_X6_readStep 10 rfl) ic_1 ?_
  refine g_goto C (tgt := 25) (gdec dt_X6_readStep 11 rfl) (by decide) ?_
  refine g_sub [0, 1] (lo2 := [(0, .ref 0), (1, .int x1)]) rfl ?_
  exact L_X6_readStep_25 C x1 (1 : Int32) w hf
set_option maxHeartbeats 4000000 in
set_option maxRecDepth 100000 in
theorem c_X6_readStep (l : Launch) (D : va_G) (cA ad : Nat → Nat) (hin : gInj ad shPR.length) (w : GW) (q : (Int32 × GW)) (hf : F_X6_readStep w = some q) : gMet l yX6_readStep cX6_readStep 4 (some .boolean) 6 230 D cA ad shPR [.ref 0] w (some (.int q.1)) q.2 := by
  refine g_entry (by decide) hin (Nat.le_of_ble_eq_true rfl) ?_
  intro p e s m args below meth c C
  unfold F_X6_readStep at hf
  show gW p l e (gRm 6 230) s m args below meth c D cA ad shPR 4 0 0 (gQ below D cA ad shPR (some (.int q.1)) q.2 args s) 0 [(0, .ref 0)] [] w
  refine g_aload_n C (gdec dt_X6_readStep 0 rfl) (i := 0) rfl rfl ?_
  refine g_getr C (j := 2) kf_X6_19 rfl rfl (gdec dt_X6_readStep 1 rfl) ?_
  refine g_geti C kf_X6_41 rfl rfl (gdec dt_X6_readStep 2 rfl) ?_
  refine g_istore_n C (gdec dt_X6_readStep 3 rfl) (i := 1) rfl (by decide) (lo2 := [(1, .int (w.1 2 2)), (0, .ref 0)]) rfl ?_
  refine g_iload_n C (gdec dt_X6_readStep 4 rfl) (i := 1) rfl rfl ?_
  refine g_bipush C (gdec dt_X6_readStep 5 rfl) bc_23 ?_
  refine g_icmp_eq C (tgt := 20) (gdec dt_X6_readStep 6 rfl) (by decide) (fun hc1 => ?_) (fun hc1 => ?_)
  · have hf := (if_pos hc1).symm.trans hf
    refine g_sub [1, 0] (lo2 := [(0, .ref 0), (1, .int (w.1 2 2))]) rfl ?_
    exact L_X6_readStep_20 C (w.1 2 2) w hf
  · have hf := (if_neg hc1).symm.trans hf
    refine g_iload_n C (gdec dt_X6_readStep 7 rfl) (i := 1) rfl rfl ?_
    refine g_bipush C (gdec dt_X6_readStep 8 rfl) bc_25 ?_
    refine g_icmp_ne C (tgt := 24) (gdec dt_X6_readStep 9 rfl) (by decide) (fun hc2 => ?_) (fun hc2 => ?_)
    · have hf := (if_neg hc2).symm.trans hf
      refine g_iconst C (gdec dt_X6_readStep 12 rfl) ic_0 ?_
      refine g_sub [1, 0] (lo2 := [(0, .ref 0), (1, .int (w.1 2 2))]) rfl ?_
      exact L_X6_readStep_25 C (w.1 2 2) (0 : Int32) w hf
    · have hf := (if_pos hc2).symm.trans hf
      refine g_sub [1, 0] (lo2 := [(0, .ref 0), (1, .int (w.1 2 2))]) rfl ?_
      exact L_X6_readStep_20 C (w.1 2 2) w hf
set_option maxHeartbeats 4000000 in
set_option maxRecDepth 100000 in
theorem L_X6_readSteps_54 {p : Program} {l : Launch} {e : Env} {s : State} {m : MethodId} {args : Array Value} {below : List Frame} {meth : Method} {c : Code} {D : va_G} {cA ad : Nat → Nat} {q : (Int32 × GW)} (C : gC p c cX6_readSteps meth m s args 3 (some .boolean) RX6 D cA ad shPR) {k14 : Int32 → GW → Option (Int32 × GW)} (hk14 : ∀ (x1 : Int32) (w : GW), k14 x1 w = some q → gW p l e (gRm 7 253) s m args below meth c D cA ad shPR 3 0 0 (gQ below D cA ad shPR (some (.int q.1)) q.2 args s) 14 [(0, .ref 0), (1, .int x1)] [] w) (x1 : Int32) (s0 : Int32) (w : GW) (hf : f_X6_readSteps_54 k14 x1 s0 w = some q) : gW p l e (gRm 7 253) s m args below meth c D cA ad shPR 3 0 0 (gQ below D cA ad shPR (some (.int q.1)) q.2 args s) 54 [(0, .ref 0), (1, .int x1)] [.int s0] w := by
  unfold f_X6_readSteps_54 at hf
  refine g_istore_n C (gdec dt_X6_readSteps 25 rfl) (i := 2) rfl (by decide) (lo2 := [(2, .int s0), (0, .ref 0), (1, .int x1)]) rfl ?_
  refine g_iload_n C (gdec dt_X6_readSteps 26 rfl) (i := 2) rfl rfl ?_
  refine g_if_ne C (tgt := 61) (gdec dt_X6_readSteps 27 rfl) (by decide) (fun hc8 => ?_) (fun hc8 => ?_)
  · have hf := (if_neg hc8).symm.trans hf
    refine g_iinc C (gdec dt_X6_readSteps 30 rfl) (kk := 2) rfl (v := (x1 + (1 : Int32))) rfl (by decide) (lo2 := [(1, .int (x1 + (1 : Int32))), (2, .int s0), (0, .ref 0)]) rfl ?_
    refine g_goto C (tgt := 14) (gdec dt_X6_readSteps 31 rfl) (by decide) ?_
    refine g_sub [2, 0] (lo2 := [(0, .ref 0), (1, .int (x1 + (1 : Int32)))]) rfl ?_
    exact hk14 (x1 + (1 : Int32)) w hf
  · have hf := (if_pos hc8).symm.trans hf
    refine g_iconst C (gdec dt_X6_readSteps 28 rfl) ic_0 ?_
    cases hf
    exact g_zret C (Or.inl rfl) rfl (gdec dt_X6_readSteps 29 rfl)
set_option maxHeartbeats 4000000 in
set_option maxRecDepth 100000 in
theorem L_X6_readSteps_83 {p : Program} {l : Launch} {e : Env} {s : State} {m : MethodId} {args : Array Value} {below : List Frame} {meth : Method} {c : Code} {D : va_G} {cA ad : Nat → Nat} {q : (Int32 × GW)} (C : gC p c cX6_readSteps meth m s args 3 (some .boolean) RX6 D cA ad shPR) (s0 : Int32) (w : GW) (hf : f_X6_readSteps_83 s0 w = some q) : gW p l e (gRm 7 253) s m args below meth c D cA ad shPR 3 0 0 (gQ below D cA ad shPR (some (.int q.1)) q.2 args s) 83 [(0, .ref 0)] [.int s0, .ref 20] w := by
  unfold f_X6_readSteps_83 at hf
  obtain ⟨hb9, hf⟩ := gif hf
  refine g_putz C kf_X6_51 rfl rfl hb9 (gdec dt_X6_readSteps 40 rfl) ?_
  refine g_aload_n C (gdec dt_X6_readSteps 41 rfl) (i := 0) rfl rfl ?_
  refine g_getiv C kf_X6_15 rfl rfl (gdec dt_X6_readSteps 42 rfl) (v := (w.1 0 4)) rfl ?_
  refine g_if_eq C (tgt := 103) (gdec dt_X6_readSteps 43 rfl) (by decide) (fun hc10 => ?_) (fun hc10 => ?_)
  · have hf := (if_pos hc10).symm.trans hf
    refine g_iconst C (gdec dt_X6_readSteps 48 rfl) ic_1 ?_
    refine g_goto C (tgt := 108) (gdec dt_X6_readSteps 49 rfl) (by decide) ?_
    cases hf
    exact g_zret C (Or.inr rfl) rfl (gdec dt_X6_readSteps 51 rfl)
  · have hf := (if_neg hc10).symm.trans hf
    refine g_aload_n C (gdec dt_X6_readSteps 44 rfl) (i := 0) rfl rfl ?_
    refine g_getr C (j := 2) kf_X6_19 rfl rfl (gdec dt_X6_readSteps 45 rfl) ?_
    obtain ⟨q11, hq11, hf⟩ := Option.bind_eq_some_iff.mp hf
    refine g_invVs e_shPR_shT_2 [] [] C (c_X8_failHere l D cA _ (gInj_sub em_e_shPR_shT_2 (gCi C)) (gsub (gI w 20 0 s0) e_shPR_shT_2)  q11 hq11) em_e_shPR_shT_2 (by decide) rfl kT_X8_failHere kl_X6_55 kim_X8_failHere kse_X8_failHere rfl rfl (i := 2) rfl rfl ⟨by decide, by decide⟩ gk0 (Nat.le_of_ble_eq_true rfl) (gdec dt_X6_readSteps 46 rfl) rfl (st2 := [.int q11.1]) (w2 := (gput (gI w 20 0 s0) e_shPR_shT_2 q11.2)) rfl rfl ?_
    refine g_if_eq C (tgt := 107) (gdec dt_X6_readSteps 47 rfl) (by decide) (fun hc12 => ?_) (fun hc12 => ?_)
    · have hf := (if_pos hc12).symm.trans hf
      refine g_iconst C (gdec dt_X6_readSteps 50 rfl) ic_0 ?_
      cases hf
      exact g_zret C (Or.inl rfl) rfl (gdec dt_X6_readSteps 51 rfl)
    · have hf := (if_neg hc12).symm.trans hf
      refine g_iconst C (gdec dt_X6_readSteps 48 rfl) ic_1 ?_
      refine g_goto C (tgt := 108) (gdec dt_X6_readSteps 49 rfl) (by decide) ?_
      cases hf
      exact g_zret C (Or.inr rfl) rfl (gdec dt_X6_readSteps 51 rfl)
set_option maxHeartbeats 4000000 in
set_option maxRecDepth 100000 in
theorem L_X6_readSteps_67 {p : Program} {l : Launch} {e : Env} {s : State} {m : MethodId} {args : Array Value} {below : List Frame} {meth : Method} {c : Code} {D : va_G} {cA ad : Nat → Nat} {q : (Int32 × GW)} (C : gC p c cX6_readSteps meth m s args 3 (some .boolean) RX6 D cA ad shPR) (w : GW) (hf : f_X6_readSteps_67 w = some q) : gW p l e (gRm 7 253) s m args below meth c D cA ad shPR 3 0 0 (gQ below D cA ad shPR (some (.int q.1)) q.2 args s) 67 [(0, .ref 0)] [] w := by
  unfold f_X6_readSteps_67 at hf
  refine g_aload_n C (gdec dt_X6_readSteps 32 rfl) (i := 0) rfl rfl ?_
  refine g_getr C (j := 20) kf_X6_27 rfl rfl (gdec dt_X6_readSteps 33 rfl) ?_
  refine g_aload_n C (gdec dt_X6_readSteps 34 rfl) (i := 0) rfl rfl ?_
  refine g_geti C kf_X6_15 rfl rfl (gdec dt_X6_readSteps 35 rfl) ?_
  refine g_if_ne C (tgt := 82) (gdec dt_X6_readSteps 36 rfl) (by decide) (fun hc7 => ?_) (fun hc7 => ?_)
  · have hf := (if_neg hc7).symm.trans hf
    refine g_iconst C (gdec dt_X6_readSteps 39 rfl) ic_0 ?_
    refine g_sub [0] (lo2 := [(0, .ref 0)]) rfl ?_
    exact L_X6_readSteps_83 C (0 : Int32) w hf
  · have hf := (if_pos hc7).symm.trans hf
    refine g_iconst C (gdec dt_X6_readSteps 37 rfl) ic_1 ?_
    refine g_goto C (tgt := 83) (gdec dt_X6_readSteps 38 rfl) (by decide) ?_
    refine g_sub [0] (lo2 := [(0, .ref 0)]) rfl ?_
    exact L_X6_readSteps_83 C (1 : Int32) w hf
set_option maxHeartbeats 4000000 in
set_option maxRecDepth 100000 in
theorem Lb_X6_readSteps_14 {p : Program} {l : Launch} {e : Env} {s : State} {m : MethodId} {args : Array Value} {below : List Frame} {meth : Method} {c : Code} {D : va_G} {cA ad : Nat → Nat} {q : (Int32 × GW)} (C : gC p c cX6_readSteps meth m s args 3 (some .boolean) RX6 D cA ad shPR) {k14 : Int32 → GW → Option (Int32 × GW)} (hk14 : ∀ (x1 : Int32) (w : GW), k14 x1 w = some q → gW p l e (gRm 7 253) s m args below meth c D cA ad shPR 3 0 0 (gQ below D cA ad shPR (some (.int q.1)) q.2 args s) 14 [(0, .ref 0), (1, .int x1)] [] w) (x1 : Int32) (w : GW) (hf : b_X6_readSteps_14 k14 x1 w = some q) : gW p l e (gRm 7 253) s m args below meth c D cA ad shPR 3 0 0 (gQ below D cA ad shPR (some (.int q.1)) q.2 args s) 14 [(0, .ref 0), (1, .int x1)] [] w := by
  unfold b_X6_readSteps_14 at hf
  refine g_iload_n C (gdec dt_X6_readSteps 8 rfl) (i := 1) rfl rfl ?_
  refine g_sipush C (gdec dt_X6_readSteps 9 rfl) sc_901 ?_
  refine g_icmp_ge C (tgt := 67) (gdec dt_X6_readSteps 10 rfl) (by decide) (fun hc2 => ?_) (fun hc2 => ?_)
  · have hf := (if_pos hc2).symm.trans hf
    refine g_sub [0] (lo2 := [(0, .ref 0)]) rfl ?_
    exact L_X6_readSteps_67 C w hf
  · have hf := (if_neg hc2).symm.trans hf
    refine g_aload_n C (gdec dt_X6_readSteps 11 rfl) (i := 0) rfl rfl ?_
    refine g_getr C (j := 2) kf_X6_19 rfl rfl (gdec dt_X6_readSteps 12 rfl) ?_
    refine g_geti C kf_X6_36 rfl rfl (gdec dt_X6_readSteps 13 rfl) ?_
    refine g_if_eq C (tgt := 67) (gdec dt_X6_readSteps 14 rfl) (by decide) (fun hc3 => ?_) (fun hc3 => ?_)
    · have hf := (if_pos hc3).symm.trans hf
      refine g_sub [0] (lo2 := [(0, .ref 0)]) rfl ?_
      exact L_X6_readSteps_67 C w hf
    · have hf := (if_neg hc3).symm.trans hf
      refine g_aload_n C (gdec dt_X6_readSteps 15 rfl) (i := 0) rfl rfl ?_
      refine g_getr C (j := 2) kf_X6_19 rfl rfl (gdec dt_X6_readSteps 16 rfl) ?_
      refine g_geti C kf_X6_41 rfl rfl (gdec dt_X6_readSteps 17 rfl) ?_
      refine g_bipush C (gdec dt_X6_readSteps 18 rfl) bc_26 ?_
      refine g_icmp_ne C (tgt := 50) (gdec dt_X6_readSteps 19 rfl) (by decide) (fun hc4 => ?_) (fun hc4 => ?_)
      · have hf := (if_neg hc4).symm.trans hf
        refine g_aload_n C (gdec dt_X6_readSteps 23 rfl) (i := 0) rfl rfl ?_
        obtain ⟨q5, hq5, hf⟩ := Option.bind_eq_some_iff.mp hf
        refine g_invV [] [] C (c_X6_readStep l D cA _ (gCi C) w  q5 hq5) kT_X6_readStep kl_X6_48 kim_X6_readStep kse_X6_readStep rfl rfl (i := 0) rfl rfl ⟨by decide, by decide⟩ gk0 (Nat.le_of_ble_eq_true rfl) (gdec dt_X6_readSteps 24 rfl) rfl (st2 := [.int q5.1]) rfl ?_
        refine g_sub [0, 1] (lo2 := [(0, .ref 0), (1, .int x1)]) rfl ?_
        exact L_X6_readSteps_54 C hk14 x1 q5.1 q5.2 hf
      · have hf := (if_pos hc4).symm.trans hf
        refine g_aload_n C (gdec dt_X6_readSteps 20 rfl) (i := 0) rfl rfl ?_
        obtain ⟨q6, hq6, hf⟩ := Option.bind_eq_some_iff.mp hf
        refine g_invV [] [] C (c_X6_readEnd l D cA _ (gCi C) w  q6 hq6) kT_X6_readEnd kl_X6_44 kim_X6_readEnd kse_X6_readEnd rfl rfl (i := 0) rfl rfl ⟨by decide, by decide⟩ gk0 (Nat.le_of_ble_eq_true rfl) (gdec dt_X6_readSteps 21 rfl) rfl (st2 := [.int q6.1]) rfl ?_
        refine g_goto C (tgt := 54) (gdec dt_X6_readSteps 22 rfl) (by decide) ?_
        refine g_sub [0, 1] (lo2 := [(0, .ref 0), (1, .int x1)]) rfl ?_
        exact L_X6_readSteps_54 C hk14 x1 q6.1 q6.2 hf
theorem L_X6_readSteps_14 {p : Program} {l : Launch} {e : Env} {s : State} {m : MethodId} {args : Array Value} {below : List Frame} {meth : Method} {c : Code} {D : va_G} {cA ad : Nat → Nat} {q : (Int32 × GW)} (C : gC p c cX6_readSteps meth m s args 3 (some .boolean) RX6 D cA ad shPR) : ∀ (n : Nat) (x1 : Int32) (w : GW), f_X6_readSteps_14 n x1 w = some q → gW p l e (gRm 7 253) s m args below meth c D cA ad shPR 3 0 0 (gQ below D cA ad shPR (some (.int q.1)) q.2 args s) 14 [(0, .ref 0), (1, .int x1)] [] w := by
  intro n
  induction n with
  | zero => intro _ _ hf; cases hf
  | succ n ih => intro x1 w hf; exact Lb_X6_readSteps_14 C ih x1 w hf
set_option maxHeartbeats 4000000 in
set_option maxRecDepth 100000 in
theorem c_X6_readSteps (l : Launch) (D : va_G) (cA ad : Nat → Nat) (hin : gInj ad shPR.length) (w : GW) (q : (Int32 × GW)) (hf : F_X6_readSteps w = some q) : gMet l yX6_readSteps cX6_readSteps 3 (some .boolean) 7 253 D cA ad shPR [.ref 0] w (some (.int q.1)) q.2 := by
  refine g_entry (by decide) hin (Nat.le_of_ble_eq_true rfl) ?_
  intro p e s m args below meth c C
  unfold F_X6_readSteps at hf
  show gW p l e (gRm 7 253) s m args below meth c D cA ad shPR 3 0 0 (gQ below D cA ad shPR (some (.int q.1)) q.2 args s) 0 [(0, .ref 0)] [] w
  refine g_aload_n C (gdec dt_X6_readSteps 0 rfl) (i := 0) rfl rfl ?_
  refine g_getr C (j := 20) kf_X6_27 rfl rfl (gdec dt_X6_readSteps 1 rfl) ?_
  obtain ⟨q1, hq1, hf⟩ := Option.bind_eq_some_iff.mp hf
  refine g_invVs e_shPR_shP_20 [] [] C (c_X5_clear l D cA _ (gInj_sub em_e_shPR_shP_20 (gCi C)) (gsub w e_shPR_shP_20)  q1 hq1) em_e_shPR_shP_20 (by decide) rfl kT_X5_clear kl_X6_31 kim_X5_clear kse_X5_clear rfl rfl (i := 20) rfl rfl ⟨by decide, by decide⟩ gk0 (Nat.le_of_ble_eq_true rfl) (gdec dt_X6_readSteps 2 rfl) rfl (st2 := []) (w2 := (gput w e_shPR_shP_20 q1)) rfl rfl ?_
  refine g_aload_n C (gdec dt_X6_readSteps 3 rfl) (i := 0) rfl rfl ?_
  refine g_iconst C (gdec dt_X6_readSteps 4 rfl) ic_0 ?_
  refine g_puti C kf_X6_15 rfl rfl (gdec dt_X6_readSteps 5 rfl) ?_
  refine g_iconst C (gdec dt_X6_readSteps 6 rfl) ic_0 ?_
  refine g_istore_n C (gdec dt_X6_readSteps 7 rfl) (i := 1) rfl (by decide) (lo2 := [(1, .int (0 : Int32)), (0, .ref 0)]) rfl ?_
  refine g_sub [1, 0] (lo2 := [(0, .ref 0), (1, .int (0 : Int32))]) rfl ?_
  exact L_X6_readSteps_14 C FU (0 : Int32) (gI (gput w e_shPR_shP_20 q1) 0 4 (0 : Int32)) hf
