def tb_X1_readOdds : List (Nat × Jvm.ClassFile.Instr × Nat) := [(0, .aload_n 0, 1), (1, .getfield 9, 3), (4, .ifCond .eq 12, 3), (7, .aload_n 0, 1), (8, .getfield 18, 3), (11, .iconst 5, 1), (12, .invokevirtual 65, 3), (15, .ireturn, 1), (16, .aload_n 0, 1), (17, .iconst 1, 1), (18, .putfield 9, 3), (21, .aload_n 0, 1), (22, .getfield 18, 3), (25, .invokevirtual 69, 3), (28, .aload_n 0, 1), (29, .getfield 18, 3), (32, .iconst 0, 1), (33, .bipush 16, 2), (35, .invokevirtual 72, 3), (38, .ifCond .ne 5, 3), (41, .iconst 0, 1), (42, .ireturn, 1), (43, .aload_n 0, 1), (44, .getfield 22, 3), (47, .aload_n 0, 1), (48, .getfield 18, 3), (51, .invokevirtual 76, 3), (54, .putfield 80, 3), (57, .aload_n 0, 1), (58, .getfield 18, 3), (61, .invokevirtual 83, 3), (64, .ireturn, 1)]
set_option maxRecDepth 100000 in
theorem dt_X1_readOdds : ∀ q ∈ tb_X1_readOdds, decode cX1_readOdds q.1 = .ok q.2 := by decide +kernel
def tb_X1_readCash : List (Nat × Jvm.ClassFile.Instr × Nat) := [(0, .aload_n 0, 1), (1, .getfield 15, 3), (4, .ifCond .eq 12, 3), (7, .aload_n 0, 1), (8, .getfield 18, 3), (11, .iconst 5, 1), (12, .invokevirtual 65, 3), (15, .ireturn, 1), (16, .aload_n 0, 1), (17, .iconst 1, 1), (18, .putfield 15, 3), (21, .aload_n 0, 1), (22, .getfield 18, 3), (25, .invokevirtual 69, 3), (28, .aload_n 0, 1), (29, .getfield 18, 3), (32, .iconst 0, 1), (33, .sipush 9999, 3), (36, .invokevirtual 72, 3), (39, .ifCond .ne 5, 3), (42, .iconst 0, 1), (43, .ireturn, 1), (44, .aload_n 0, 1), (45, .getfield 22, 3), (48, .aload_n 0, 1), (49, .getfield 18, 3), (52, .invokevirtual 76, 3), (55, .putfield 86, 3), (58, .aload_n 0, 1), (59, .getfield 18, 3), (62, .invokevirtual 83, 3), (65, .ireturn, 1)]
set_option maxRecDepth 100000 in
theorem dt_X1_readCash : ∀ q ∈ tb_X1_readCash, decode cX1_readCash q.1 = .ok q.2 := by decide +kernel
def tb_X1_readCorner : List (Nat × Jvm.ClassFile.Instr × Nat) := [(0, .aload_n 0, 1), (1, .getfield 22, 3), (4, .getfield 89, 3), (7, .bipush 7, 2), (9, .if_icmp .lt 13, 3), (12, .aload_n 0, 1), (13, .getfield 18, 3), (16, .bipush 6, 2), (18, .invokevirtual 65, 3), (21, .ireturn, 1), (22, .aload_n 0, 1), (23, .getfield 18, 3), (26, .invokevirtual 69, 3), (29, .aload_n 0, 1), (30, .getfield 18, 3), (33, .iconst 3, 1), (34, .invokevirtual 92, 3), (37, .ifCond .eq 16, 3), (40, .aload_n 0, 1), (41, .getfield 18, 3), (44, .iconst 0, 1), (45, .bipush 9, 2), (47, .invokevirtual 72, 3), (50, .ifCond .ne 5, 3), (53, .iconst 0, 1), (54, .ireturn, 1), (55, .aload_n 0, 1), (56, .getfield 22, 3), (59, .aload_n 0, 1), (60, .getfield 18, 3), (63, .invokevirtual 76, 3), (66, .invokevirtual 95, 3), (69, .aload_n 0, 1), (70, .getfield 18, 3), (73, .invokevirtual 83, 3), (76, .ireturn, 1)]
set_option maxRecDepth 100000 in
theorem dt_X1_readCorner : ∀ q ∈ tb_X1_readCorner, decode cX1_readCorner q.1 = .ok q.2 := by decide +kernel
def tb_X1_readRank : List (Nat × Jvm.ClassFile.Instr × Nat) := [(0, .aload_n 0, 1), (1, .getfield 22, 3), (4, .getfield 99, 3), (7, .iconst 5, 1), (8, .if_icmp .lt 13, 3), (11, .aload_n 0, 1), (12, .getfield 18, 3), (15, .bipush 6, 2), (17, .invokevirtual 65, 3), (20, .ireturn, 1), (21, .aload_n 0, 1), (22, .getfield 18, 3), (25, .invokevirtual 69, 3), (28, .aload_n 0, 1), (29, .getfield 18, 3), (32, .iconst 5, 1), (33, .invokevirtual 92, 3), (36, .ifCond .eq 22, 3), (39, .aload_n 0, 1), (40, .getfield 18, 3), (43, .aload_n 0, 1), (44, .getfield 22, 3), (47, .invokevirtual 102, 3), (50, .bipush 99, 2), (52, .invokevirtual 72, 3), (55, .ifCond .ne 5, 3), (58, .iconst 0, 1), (59, .ireturn, 1), (60, .aload_n 0, 1), (61, .getfield 18, 3), (64, .invokevirtual 76, 3), (67, .istore_n 1, 1), (68, .aload_n 0, 1), (69, .getfield 18, 3), (72, .bipush 6, 2), (74, .invokevirtual 92, 3), (77, .ifCond .eq 16, 3), (80, .aload_n 0, 1), (81, .getfield 18, 3), (84, .iconst 0, 1), (85, .bipush 50, 2), (87, .invokevirtual 72, 3), (90, .ifCond .ne 5, 3), (93, .iconst 0, 1), (94, .ireturn, 1), (95, .aload_n 0, 1), (96, .getfield 22, 3), (99, .iload_n 1, 1), (100, .aload_n 0, 1), (101, .getfield 18, 3), (104, .invokevirtual 76, 3), (107, .invokevirtual 105, 3), (110, .aload_n 0, 1), (111, .getfield 18, 3), (114, .invokevirtual 83, 3), (117, .ireturn, 1)]
set_option maxRecDepth 100000 in
theorem dt_X1_readRank : ∀ q ∈ tb_X1_readRank, decode cX1_readRank q.1 = .ok q.2 := by decide +kernel
def tb_X1_readTrait : List (Nat × Jvm.ClassFile.Instr × Nat) := [(0, .aload_n 0, 1), (1, .getfield 18, 3), (4, .getfield 41, 3), (7, .iload_n 1, 1), (8, .if_icmp .eq 5, 3), (11, .iconst 1, 1), (12, .ireturn, 1), (13, .aload_n 0, 1), (14, .getfield 18, 3), (17, .invokevirtual 69, 3), (20, .aload_n 0, 1), (21, .getfield 18, 3), (24, .iconst 0, 1), (25, .iload_n 2, 1), (26, .invokevirtual 72, 3), (29, .ifCond .ne 5, 3), (32, .iconst 0, 1), (33, .ireturn, 1), (34, .iload 4, 2), (36, .ifCond .lt 21, 3), (39, .iload 4, 2), (41, .aload_n 3, 1), (42, .arraylength, 1), (43, .if_icmp .ge 14, 3), (46, .aload_n 3, 1), (47, .iload 4, 2), (49, .aload_n 0, 1), (50, .getfield 18, 3), (53, .invokevirtual 76, 3), (56, .iastore, 1), (57, .iconst 1, 1), (58, .ireturn, 1)]
set_option maxRecDepth 100000 in
theorem dt_X1_readTrait : ∀ q ∈ tb_X1_readTrait, decode cX1_readTrait q.1 = .ok q.2 := by decide +kernel
def tb_X1_readClerk : List (Nat × Jvm.ClassFile.Instr × Nat) := [(0, .aload_n 0, 1), (1, .getfield 22, 3), (4, .getfield 109, 3), (7, .bipush 6, 2), (9, .if_icmp .lt 13, 3), (12, .aload_n 0, 1), (13, .getfield 18, 3), (16, .bipush 6, 2), (18, .invokevirtual 65, 3), (21, .ireturn, 1), (22, .aload_n 0, 1), (23, .getfield 18, 3), (26, .invokevirtual 69, 3), (29, .aload_n 0, 1), (30, .getfield 18, 3), (33, .invokevirtual 112, 3), (36, .ifCond .ne 5, 3), (39, .iconst 0, 1), (40, .ireturn, 1), (41, .aload_n 0, 1), (42, .getfield 18, 3), (45, .getfield 115, 3), (48, .lstore_n 1, 1), (49, .aload_n 0, 1), (50, .getfield 22, 3), (53, .lload_n 1, 1), (54, .invokevirtual 119, 3), (57, .iconst (-1), 1), (58, .if_icmp .eq 12, 3), (61, .aload_n 0, 1), (62, .getfield 18, 3), (65, .iconst 3, 1), (66, .invokevirtual 123, 3), (69, .ireturn, 1), (70, .aload_n 0, 1), (71, .getfield 18, 3), (74, .bipush 8, 2), (76, .invokevirtual 92, 3), (79, .ifCond .eq 23, 3), (82, .aload_n 0, 1), (83, .getfield 18, 3), (86, .iconst 0, 1), (87, .aload_n 0, 1), (88, .getfield 22, 3), (91, .getfield 89, 3), (94, .iconst 1, 1), (95, .isub, 1), (96, .invokevirtual 72, 3), (99, .ifCond .ne 5, 3), (102, .iconst 0, 1), (103, .ireturn, 1), (104, .aload_n 0, 1), (105, .getfield 22, 3), (108, .aload_n 0, 1), (109, .getfield 18, 3), (112, .invokevirtual 76, 3), (115, .invokevirtual 126, 3), (118, .iconst (-1), 1), (119, .if_icmp .eq 12, 3), (122, .aload_n 0, 1), (123, .getfield 18, 3), (126, .iconst 5, 1), (127, .invokevirtual 123, 3), (130, .ireturn, 1), (131, .aload_n 0, 1), (132, .getfield 22, 3), (135, .lload_n 1, 1), (136, .aload_n 0, 1), (137, .getfield 18, 3), (140, .invokevirtual 76, 3), (143, .invokevirtual 130, 3), (146, .istore_n 3, 1), (147, .aload_n 0, 1), (148, .bipush 9, 2), (150, .sipush 999, 3), (153, .aload_n 0, 1), (154, .getfield 22, 3), (157, .getfield 134, 3), (160, .iload_n 3, 1), (161, .invokevirtual 138, 3), (164, .ifCond .eq 55, 3), (167, .aload_n 0, 1), (168, .bipush 10, 2), (170, .bipush 99, 2), (172, .aload_n 0, 1), (173, .getfield 22, 3), (176, .getfield 142, 3), (179, .iload_n 3, 1), (180, .invokevirtual 138, 3), (183, .ifCond .eq 36, 3), (186, .aload_n 0, 1), (187, .bipush 11, 2), (189, .bipush 99, 2), (191, .aload_n 0, 1), (192, .getfield 22, 3), (195, .getfield 145, 3), (198, .iload_n 3, 1), (199, .invokevirtual 138, 3), (202, .ifCond .eq 17, 3), (205, .aload_n 0, 1), (206, .getfield 18, 3), (209, .invokevirtual 83, 3), (212, .ifCond .eq 7, 3), (215, .iconst 1, 1), (216, .goto 4, 3), (219, .iconst 0, 1), (220, .ireturn, 1)]
set_option maxRecDepth 100000 in
theorem dt_X1_readClerk : ∀ q ∈ tb_X1_readClerk, decode cX1_readClerk q.1 = .ok q.2 := by decide +kernel
def tb_X1_readClient : List (Nat × Jvm.ClassFile.Instr × Nat) := [(0, .aload_n 0, 1), (1, .getfield 22, 3), (4, .getfield 148, 3), (7, .bipush 8, 2), (9, .if_icmp .lt 13, 3), (12, .aload_n 0, 1), (13, .getfield 18, 3), (16, .bipush 6, 2), (18, .invokevirtual 65, 3), (21, .ireturn, 1), (22, .aload_n 0, 1), (23, .getfield 18, 3), (26, .invokevirtual 69, 3), (29, .aload_n 0, 1), (30, .getfield 18, 3), (33, .bipush 13, 2), (35, .invokevirtual 92, 3), (38, .ifCond .eq 16, 3), (41, .aload_n 0, 1), (42, .getfield 18, 3), (45, .iconst 1, 1), (46, .bipush 99, 2), (48, .invokevirtual 72, 3), (51, .ifCond .ne 5, 3), (54, .iconst 0, 1), (55, .ireturn, 1), (56, .aload_n 0, 1), (57, .getfield 18, 3), (60, .invokevirtual 76, 3), (63, .istore_n 1, 1), (64, .aload_n 0, 1), (65, .getfield 18, 3), (68, .bipush 14, 2), (70, .invokevirtual 92, 3), (73, .ifCond .eq 17, 3), (76, .aload_n 0, 1), (77, .getfield 18, 3), (80, .iconst 0, 1), (81, .sipush 999, 3), (84, .invokevirtual 72, 3), (87, .ifCond .ne 5, 3), (90, .iconst 0, 1), (91, .ireturn, 1), (92, .aload_n 0, 1), (93, .getfield 22, 3), (96, .iload_n 1, 1), (97, .aload_n 0, 1), (98, .getfield 18, 3), (101, .invokevirtual 76, 3), (104, .invokevirtual 151, 3), (107, .pop, 1), (108, .aload_n 0, 1), (109, .getfield 18, 3), (112, .invokevirtual 83, 3), (115, .ireturn, 1)]
set_option maxRecDepth 100000 in
theorem dt_X1_readClient : ∀ q ∈ tb_X1_readClient, decode cX1_readClient q.1 = .ok q.2 := by decide +kernel
def tb_X1_readPart : List (Nat × Jvm.ClassFile.Instr × Nat) := [(0, .aload_n 0, 1), (1, .getfield 18, 3), (4, .getfield 41, 3), (7, .tableswitch 95 0 12 #[65, 70, 75, 95, 80, 95, 95, 85, 95, 95, 95, 95, 90], 65), (72, .aload_n 0, 1), (73, .invokevirtual 44, 3), (76, .ireturn, 1), (77, .aload_n 0, 1), (78, .invokevirtual 47, 3), (81, .ireturn, 1), (82, .aload_n 0, 1), (83, .invokevirtual 50, 3), (86, .ireturn, 1), (87, .aload_n 0, 1), (88, .invokevirtual 53, 3), (91, .ireturn, 1), (92, .aload_n 0, 1), (93, .invokevirtual 56, 3), (96, .ireturn, 1), (97, .aload_n 0, 1), (98, .invokevirtual 59, 3), (101, .ireturn, 1), (102, .aload_n 0, 1), (103, .getfield 18, 3), (106, .invokevirtual 62, 3), (109, .ireturn, 1)]
set_option maxRecDepth 100000 in
theorem dt_X1_readPart : ∀ q ∈ tb_X1_readPart, decode cX1_readPart q.1 = .ok q.2 := by decide +kernel
def tb_X1_readParts : List (Nat × Jvm.ClassFile.Instr × Nat) := [(0, .aload_n 0, 1), (1, .getfield 22, 3), (4, .invokevirtual 26, 3), (7, .aload_n 0, 1), (8, .iconst 0, 1), (9, .putfield 9, 3), (12, .aload_n 0, 1), (13, .iconst 0, 1), (14, .putfield 15, 3), (17, .iconst 0, 1), (18, .istore_n 1, 1), (19, .iload_n 1, 1), (20, .sipush 901, 3), (23, .if_icmp .ge 28, 3), (26, .aload_n 0, 1), (27, .getfield 18, 3), (30, .getfield 31, 3), (33, .ifCond .eq 18, 3), (36, .aload_n 0, 1), (37, .invokevirtual 37, 3), (40, .ifCond .ne 5, 3), (43, .iconst 0, 1), (44, .ireturn, 1), (45, .iinc 1 1, 3), (48, .goto (-29), 3), (51, .iconst 1, 1), (52, .ireturn, 1)]
set_option maxRecDepth 100000 in
theorem dt_X1_readParts : ∀ q ∈ tb_X1_readParts, decode cX1_readParts q.1 = .ok q.2 := by decide +kernel
def F_X1_readOdds (w : GW) : Option (Int32 × GW) := (if (w.1 0 2) = 0 then ((F_X8_advance (gsub (gI w 0 2 (1 : Int32)) e_shBR_shT_1)).bind fun q2 => ((F_X8_passNumber (0 : Int32) (16 : Int32) (gsub (gput (gI w 0 2 (1 : Int32)) e_shBR_shT_1 q2) e_shBR_shT_1)).bind fun q3 => (if q3.1 = 0 then (some ((0 : Int32), (gput (gput (gI w 0 2 (1 : Int32)) e_shBR_shT_1 q2) e_shBR_shT_1 q3.2))) else ((F_X8_passedNumber (gsub (gput (gput (gI w 0 2 (1 : Int32)) e_shBR_shT_1 q2) e_shBR_shT_1 q3.2) e_shBR_shT_1)).bind fun q5 => ((F_X8_passSemicolon (gsub (gI (gput (gput (gI w 0 2 (1 : Int32)) e_shBR_shT_1 q2) e_shBR_shT_1 q3.2) 6 0 q5) e_shBR_shT_1)).bind fun q6 => (if q6.1 = 0 ∨ q6.1 = 1 then some (q6.1, (gput (gI (gput (gput (gI w 0 2 (1 : Int32)) e_shBR_shT_1 q2) e_shBR_shT_1 q3.2) 6 0 q5) e_shBR_shT_1 q6.2)) else none)))))) else ((F_X8_fail (5 : Int32) (gsub w e_shBR_shT_1)).bind fun q8 => (if q8.1 = 0 ∨ q8.1 = 1 then some (q8.1, (gput w e_shBR_shT_1 q8.2)) else none)))
def F_X1_readCash (w : GW) : Option (Int32 × GW) := (if (w.1 0 3) = 0 then ((F_X8_advance (gsub (gI w 0 3 (1 : Int32)) e_shBR_shT_1)).bind fun q2 => ((F_X8_passNumber (0 : Int32) (9999 : Int32) (gsub (gput (gI w 0 3 (1 : Int32)) e_shBR_shT_1 q2) e_shBR_shT_1)).bind fun q3 => (if q3.1 = 0 then (some ((0 : Int32), (gput (gput (gI w 0 3 (1 : Int32)) e_shBR_shT_1 q2) e_shBR_shT_1 q3.2))) else ((F_X8_passedNumber (gsub (gput (gput (gI w 0 3 (1 : Int32)) e_shBR_shT_1 q2) e_shBR_shT_1 q3.2) e_shBR_shT_1)).bind fun q5 => ((F_X8_passSemicolon (gsub (gI (gput (gput (gI w 0 3 (1 : Int32)) e_shBR_shT_1 q2) e_shBR_shT_1 q3.2) 6 1 q5) e_shBR_shT_1)).bind fun q6 => (if q6.1 = 0 ∨ q6.1 = 1 then some (q6.1, (gput (gI (gput (gput (gI w 0 3 (1 : Int32)) e_shBR_shT_1 q2) e_shBR_shT_1 q3.2) 6 1 q5) e_shBR_shT_1 q6.2)) else none)))))) else ((F_X8_fail (5 : Int32) (gsub w e_shBR_shT_1)).bind fun q8 => (if q8.1 = 0 ∨ q8.1 = 1 then some (q8.1, (gput w e_shBR_shT_1 q8.2)) else none)))
def F_X1_readCorner (w : GW) : Option (Int32 × GW) := (if (w.1 6 3) < (7 : Int32) then ((F_X8_advance (gsub w e_shBR_shT_1)).bind fun q2 => ((F_X8_passWord (3 : Int32) (gsub (gput w e_shBR_shT_1 q2) e_shBR_shT_1)).bind fun q3 => (if q3.1 = 0 then (some ((0 : Int32), (gput (gput w e_shBR_shT_1 q2) e_shBR_shT_1 q3.2))) else ((F_X8_passNumber (0 : Int32) (9 : Int32) (gsub (gput (gput w e_shBR_shT_1 q2) e_shBR_shT_1 q3.2) e_shBR_shT_1)).bind fun q5 => (if q5.1 = 0 then (some ((0 : Int32), (gput (gput (gput w e_shBR_shT_1 q2) e_shBR_shT_1 q3.2) e_shBR_shT_1 q5.2))) else ((F_X8_passedNumber (gsub (gput (gput (gput w e_shBR_shT_1 q2) e_shBR_shT_1 q3.2) e_shBR_shT_1 q5.2) e_shBR_shT_1)).bind fun q7 => ((F_X0_addCorner q7 (gsub (gput (gput (gput w e_shBR_shT_1 q2) e_shBR_shT_1 q3.2) e_shBR_shT_1 q5.2) e_shBR_shB_6)).bind fun q8 => ((F_X8_passSemicolon (gsub (gput (gput (gput (gput w e_shBR_shT_1 q2) e_shBR_shT_1 q3.2) e_shBR_shT_1 q5.2) e_shBR_shB_6 q8) e_shBR_shT_1)).bind fun q9 => (if q9.1 = 0 ∨ q9.1 = 1 then some (q9.1, (gput (gput (gput (gput (gput w e_shBR_shT_1 q2) e_shBR_shT_1 q3.2) e_shBR_shT_1 q5.2) e_shBR_shB_6 q8) e_shBR_shT_1 q9.2)) else none))))))))) else ((F_X8_fail (6 : Int32) (gsub w e_shBR_shT_1)).bind fun q11 => (if q11.1 = 0 ∨ q11.1 = 1 then some (q11.1, (gput w e_shBR_shT_1 q11.2)) else none)))
def F_X1_readRank (w : GW) : Option (Int32 × GW) := (if (w.1 6 4) < (5 : Int32) then ((F_X8_advance (gsub w e_shBR_shT_1)).bind fun q2 => ((F_X8_passWord (5 : Int32) (gsub (gput w e_shBR_shT_1 q2) e_shBR_shT_1)).bind fun q3 => (if q3.1 = 0 then (some ((0 : Int32), (gput (gput w e_shBR_shT_1 q2) e_shBR_shT_1 q3.2))) else ((F_X0_leastNextAt (gsub (gput (gput w e_shBR_shT_1 q2) e_shBR_shT_1 q3.2) e_shBR_shB_6)).bind fun q5 => ((F_X8_passNumber q5 (99 : Int32) (gsub (gput (gput w e_shBR_shT_1 q2) e_shBR_shT_1 q3.2) e_shBR_shT_1)).bind fun q6 => (if q6.1 = 0 then (some ((0 : Int32), (gput (gput (gput w e_shBR_shT_1 q2) e_shBR_shT_1 q3.2) e_shBR_shT_1 q6.2))) else ((F_X8_passedNumber (gsub (gput (gput (gput w e_shBR_shT_1 q2) e_shBR_shT_1 q3.2) e_shBR_shT_1 q6.2) e_shBR_shT_1)).bind fun q8 => ((F_X8_passWord (6 : Int32) (gsub (gput (gput (gput w e_shBR_shT_1 q2) e_shBR_shT_1 q3.2) e_shBR_shT_1 q6.2) e_shBR_shT_1)).bind fun q9 => (if q9.1 = 0 then (some ((0 : Int32), (gput (gput (gput (gput w e_shBR_shT_1 q2) e_shBR_shT_1 q3.2) e_shBR_shT_1 q6.2) e_shBR_shT_1 q9.2))) else ((F_X8_passNumber (0 : Int32) (50 : Int32) (gsub (gput (gput (gput (gput w e_shBR_shT_1 q2) e_shBR_shT_1 q3.2) e_shBR_shT_1 q6.2) e_shBR_shT_1 q9.2) e_shBR_shT_1)).bind fun q11 => (if q11.1 = 0 then (some ((0 : Int32), (gput (gput (gput (gput (gput w e_shBR_shT_1 q2) e_shBR_shT_1 q3.2) e_shBR_shT_1 q6.2) e_shBR_shT_1 q9.2) e_shBR_shT_1 q11.2))) else ((F_X8_passedNumber (gsub (gput (gput (gput (gput (gput w e_shBR_shT_1 q2) e_shBR_shT_1 q3.2) e_shBR_shT_1 q6.2) e_shBR_shT_1 q9.2) e_shBR_shT_1 q11.2) e_shBR_shT_1)).bind fun q13 => ((F_X0_addRank q8 q13 (gsub (gput (gput (gput (gput (gput w e_shBR_shT_1 q2) e_shBR_shT_1 q3.2) e_shBR_shT_1 q6.2) e_shBR_shT_1 q9.2) e_shBR_shT_1 q11.2) e_shBR_shB_6)).bind fun q14 => ((F_X8_passSemicolon (gsub (gput (gput (gput (gput (gput (gput w e_shBR_shT_1 q2) e_shBR_shT_1 q3.2) e_shBR_shT_1 q6.2) e_shBR_shT_1 q9.2) e_shBR_shT_1 q11.2) e_shBR_shB_6 q14) e_shBR_shT_1)).bind fun q15 => (if q15.1 = 0 ∨ q15.1 = 1 then some (q15.1, (gput (gput (gput (gput (gput (gput (gput w e_shBR_shT_1 q2) e_shBR_shT_1 q3.2) e_shBR_shT_1 q6.2) e_shBR_shT_1 q9.2) e_shBR_shT_1 q11.2) e_shBR_shB_6 q14) e_shBR_shT_1 q15.2)) else none))))))))))))))) else ((F_X8_fail (6 : Int32) (gsub w e_shBR_shT_1)).bind fun q17 => (if q17.1 = 0 ∨ q17.1 = 1 then some (q17.1, (gput w e_shBR_shT_1 q17.2)) else none)))
def F_X1_readTrait (a3 : Nat) (x1 : Int32) (x2 : Int32) (x4 : Int32) (w : GW) : Option (Int32 × GW) := (if (w.1 1 2) = x1 then ((F_X8_advance (gsub w e_shBR_shT_1)).bind fun q2 => ((F_X8_passNumber (0 : Int32) x2 (gsub (gput w e_shBR_shT_1 q2) e_shBR_shT_1)).bind fun q3 => (if q3.1 = 0 then (some ((0 : Int32), (gput (gput w e_shBR_shT_1 q2) e_shBR_shT_1 q3.2))) else (if x4 < 0 then (some ((1 : Int32), (gput (gput w e_shBR_shT_1 q2) e_shBR_shT_1 q3.2))) else (if (6 : Int32) ≤ x4 then (some ((1 : Int32), (gput (gput w e_shBR_shT_1 q2) e_shBR_shT_1 q3.2))) else ((F_X8_passedNumber (gsub (gput (gput w e_shBR_shT_1 q2) e_shBR_shT_1 q3.2) e_shBR_shT_1)).bind fun q7 => (if gin x4 6 then (some ((1 : Int32), (gI (gput (gput w e_shBR_shT_1 q2) e_shBR_shT_1 q3.2) a3 x4.toNatClampNeg q7))) else none))))))) else (some ((1 : Int32), w)))
def F_X1_readClerk (w : GW) : Option (Int32 × GW) := (if (w.1 6 5) < (6 : Int32) then ((F_X8_advance (gsub w e_shBR_shT_1)).bind fun q2 => ((F_X8_passName (gsub (gput w e_shBR_shT_1 q2) e_shBR_shT_1)).bind fun q3 => (if q3.1 = 0 then (some ((0 : Int32), (gput (gput w e_shBR_shT_1 q2) e_shBR_shT_1 q3.2))) else ((F_X0_clerkNamed (gsub (gput (gput w e_shBR_shT_1 q2) e_shBR_shT_1 q3.2) e_shBR_shB_6) (q3.2.2 0 3)).bind fun q5 => (if q5 = (-1 : Int32) then ((F_X8_passWord (8 : Int32) (gsub (gput (gput w e_shBR_shT_1 q2) e_shBR_shT_1 q3.2) e_shBR_shT_1)).bind fun q7 => (if q7.1 = 0 then (some ((0 : Int32), (gput (gput (gput w e_shBR_shT_1 q2) e_shBR_shT_1 q3.2) e_shBR_shT_1 q7.2))) else ((F_X8_passNumber (0 : Int32) ((w.1 6 3) - (1 : Int32)) (gsub (gput (gput (gput w e_shBR_shT_1 q2) e_shBR_shT_1 q3.2) e_shBR_shT_1 q7.2) e_shBR_shT_1)).bind fun q9 => (if q9.1 = 0 then (some ((0 : Int32), (gput (gput (gput (gput w e_shBR_shT_1 q2) e_shBR_shT_1 q3.2) e_shBR_shT_1 q7.2) e_shBR_shT_1 q9.2))) else ((F_X8_passedNumber (gsub (gput (gput (gput (gput w e_shBR_shT_1 q2) e_shBR_shT_1 q3.2) e_shBR_shT_1 q7.2) e_shBR_shT_1 q9.2) e_shBR_shT_1)).bind fun q11 => ((F_X0_sitterIn (gsub (gput (gput (gput (gput w e_shBR_shT_1 q2) e_shBR_shT_1 q3.2) e_shBR_shT_1 q7.2) e_shBR_shT_1 q9.2) e_shBR_shB_6) q11).bind fun q12 => (if q12 = (-1 : Int32) then ((F_X8_passedNumber (gsub (gput (gput (gput (gput w e_shBR_shT_1 q2) e_shBR_shT_1 q3.2) e_shBR_shT_1 q7.2) e_shBR_shT_1 q9.2) e_shBR_shT_1)).bind fun q14 => ((F_X0_addClerk (q3.2.2 0 3) q14 (gsub (gput (gput (gput (gput w e_shBR_shT_1 q2) e_shBR_shT_1 q3.2) e_shBR_shT_1 q7.2) e_shBR_shT_1 q9.2) e_shBR_shB_6)).bind fun q15 => ((F_X1_readTrait 12 (9 : Int32) (999 : Int32) q15.1 (gput (gput (gput (gput (gput w e_shBR_shT_1 q2) e_shBR_shT_1 q3.2) e_shBR_shT_1 q7.2) e_shBR_shT_1 q9.2) e_shBR_shB_6 q15.2)).bind fun q16 => (if q16.1 = 0 then (some ((0 : Int32), q16.2)) else ((F_X1_readTrait 13 (10 : Int32) (99 : Int32) q15.1 q16.2).bind fun q18 => (if q18.1 = 0 then (some ((0 : Int32), q18.2)) else ((F_X1_readTrait 14 (11 : Int32) (99 : Int32) q15.1 q18.2).bind fun q20 => (if q20.1 = 0 then (some ((0 : Int32), q20.2)) else ((F_X8_passSemicolon (gsub q20.2 e_shBR_shT_1)).bind fun q22 => (if q22.1 = 0 then (some ((0 : Int32), (gput q20.2 e_shBR_shT_1 q22.2))) else (some ((1 : Int32), (gput q20.2 e_shBR_shT_1 q22.2))))))))))))) else ((F_X8_failPassed (5 : Int32) (gsub (gput (gput (gput (gput w e_shBR_shT_1 q2) e_shBR_shT_1 q3.2) e_shBR_shT_1 q7.2) e_shBR_shT_1 q9.2) e_shBR_shT_1)).bind fun q24 => (if q24.1 = 0 ∨ q24.1 = 1 then some (q24.1, (gput (gput (gput (gput (gput w e_shBR_shT_1 q2) e_shBR_shT_1 q3.2) e_shBR_shT_1 q7.2) e_shBR_shT_1 q9.2) e_shBR_shT_1 q24.2)) else none))))))))) else ((F_X8_failPassed (3 : Int32) (gsub (gput (gput w e_shBR_shT_1 q2) e_shBR_shT_1 q3.2) e_shBR_shT_1)).bind fun q26 => (if q26.1 = 0 ∨ q26.1 = 1 then some (q26.1, (gput (gput (gput w e_shBR_shT_1 q2) e_shBR_shT_1 q3.2) e_shBR_shT_1 q26.2)) else none))))))) else ((F_X8_fail (6 : Int32) (gsub w e_shBR_shT_1)).bind fun q28 => (if q28.1 = 0 ∨ q28.1 = 1 then some (q28.1, (gput w e_shBR_shT_1 q28.2)) else none)))
def F_X1_readClient (w : GW) : Option (Int32 × GW) := (if (w.1 6 6) < (8 : Int32) then ((F_X8_advance (gsub w e_shBR_shT_1)).bind fun q2 => ((F_X8_passWord (13 : Int32) (gsub (gput w e_shBR_shT_1 q2) e_shBR_shT_1)).bind fun q3 => (if q3.1 = 0 then (some ((0 : Int32), (gput (gput w e_shBR_shT_1 q2) e_shBR_shT_1 q3.2))) else ((F_X8_passNumber (1 : Int32) (99 : Int32) (gsub (gput (gput w e_shBR_shT_1 q2) e_shBR_shT_1 q3.2) e_shBR_shT_1)).bind fun q5 => (if q5.1 = 0 then (some ((0 : Int32), (gput (gput (gput w e_shBR_shT_1 q2) e_shBR_shT_1 q3.2) e_shBR_shT_1 q5.2))) else ((F_X8_passedNumber (gsub (gput (gput (gput w e_shBR_shT_1 q2) e_shBR_shT_1 q3.2) e_shBR_shT_1 q5.2) e_shBR_shT_1)).bind fun q7 => ((F_X8_passWord (14 : Int32) (gsub (gput (gput (gput w e_shBR_shT_1 q2) e_shBR_shT_1 q3.2) e_shBR_shT_1 q5.2) e_shBR_shT_1)).bind fun q8 => (if q8.1 = 0 then (some ((0 : Int32), (gput (gput (gput (gput w e_shBR_shT_1 q2) e_shBR_shT_1 q3.2) e_shBR_shT_1 q5.2) e_shBR_shT_1 q8.2))) else ((F_X8_passNumber (0 : Int32) (999 : Int32) (gsub (gput (gput (gput (gput w e_shBR_shT_1 q2) e_shBR_shT_1 q3.2) e_shBR_shT_1 q5.2) e_shBR_shT_1 q8.2) e_shBR_shT_1)).bind fun q10 => (if q10.1 = 0 then (some ((0 : Int32), (gput (gput (gput (gput (gput w e_shBR_shT_1 q2) e_shBR_shT_1 q3.2) e_shBR_shT_1 q5.2) e_shBR_shT_1 q8.2) e_shBR_shT_1 q10.2))) else ((F_X8_passedNumber (gsub (gput (gput (gput (gput (gput w e_shBR_shT_1 q2) e_shBR_shT_1 q3.2) e_shBR_shT_1 q5.2) e_shBR_shT_1 q8.2) e_shBR_shT_1 q10.2) e_shBR_shT_1)).bind fun q12 => ((F_X0_addClient q7 q12 (gsub (gput (gput (gput (gput (gput w e_shBR_shT_1 q2) e_shBR_shT_1 q3.2) e_shBR_shT_1 q5.2) e_shBR_shT_1 q8.2) e_shBR_shT_1 q10.2) e_shBR_shB_6)).bind fun q13 => ((F_X8_passSemicolon (gsub (gput (gput (gput (gput (gput (gput w e_shBR_shT_1 q2) e_shBR_shT_1 q3.2) e_shBR_shT_1 q5.2) e_shBR_shT_1 q8.2) e_shBR_shT_1 q10.2) e_shBR_shB_6 q13.2) e_shBR_shT_1)).bind fun q14 => (if q14.1 = 0 ∨ q14.1 = 1 then some (q14.1, (gput (gput (gput (gput (gput (gput (gput w e_shBR_shT_1 q2) e_shBR_shT_1 q3.2) e_shBR_shT_1 q5.2) e_shBR_shT_1 q8.2) e_shBR_shT_1 q10.2) e_shBR_shB_6 q13.2) e_shBR_shT_1 q14.2)) else none)))))))))))))) else ((F_X8_fail (6 : Int32) (gsub w e_shBR_shT_1)).bind fun q16 => (if q16.1 = 0 ∨ q16.1 = 1 then some (q16.1, (gput w e_shBR_shT_1 q16.2)) else none)))
def F_X1_readPart (w : GW) : Option (Int32 × GW) := (if (w.1 1 2) = (0 : Int32) then ((F_X1_readOdds w).bind fun q2 => (if q2.1 = 0 ∨ q2.1 = 1 then some (q2.1, q2.2) else none)) else (if (w.1 1 2) = (1 : Int32) then ((F_X1_readCash w).bind fun q5 => (if q5.1 = 0 ∨ q5.1 = 1 then some (q5.1, q5.2) else none)) else (if (w.1 1 2) = (2 : Int32) then ((F_X1_readCorner w).bind fun q8 => (if q8.1 = 0 ∨ q8.1 = 1 then some (q8.1, q8.2) else none)) else (if (w.1 1 2) = (3 : Int32) then ((F_X8_failHere (gsub w e_shBR_shT_1)).bind fun q11 => (if q11.1 = 0 ∨ q11.1 = 1 then some (q11.1, (gput w e_shBR_shT_1 q11.2)) else none)) else (if (w.1 1 2) = (4 : Int32) then ((F_X1_readRank w).bind fun q14 => (if q14.1 = 0 ∨ q14.1 = 1 then some (q14.1, q14.2) else none)) else (if (w.1 1 2) = (5 : Int32) then ((F_X8_failHere (gsub w e_shBR_shT_1)).bind fun q17 => (if q17.1 = 0 ∨ q17.1 = 1 then some (q17.1, (gput w e_shBR_shT_1 q17.2)) else none)) else (if (w.1 1 2) = (6 : Int32) then ((F_X8_failHere (gsub w e_shBR_shT_1)).bind fun q20 => (if q20.1 = 0 ∨ q20.1 = 1 then some (q20.1, (gput w e_shBR_shT_1 q20.2)) else none)) else (if (w.1 1 2) = (7 : Int32) then ((F_X1_readClerk w).bind fun q23 => (if q23.1 = 0 ∨ q23.1 = 1 then some (q23.1, q23.2) else none)) else (if (w.1 1 2) = (8 : Int32) then ((F_X8_failHere (gsub w e_shBR_shT_1)).bind fun q26 => (if q26.1 = 0 ∨ q26.1 = 1 then some (q26.1, (gput w e_shBR_shT_1 q26.2)) else none)) else (if (w.1 1 2) = (9 : Int32) then ((F_X8_failHere (gsub w e_shBR_shT_1)).bind fun q29 => (if q29.1 = 0 ∨ q29.1 = 1 then some (q29.1, (gput w e_shBR_shT_1 q29.2)) else none)) else (if (w.1 1 2) = (10 : Int32) then ((F_X8_failHere (gsub w e_shBR_shT_1)).bind fun q32 => (if q32.1 = 0 ∨ q32.1 = 1 then some (q32.1, (gput w e_shBR_shT_1 q32.2)) else none)) else (if (w.1 1 2) = (11 : Int32) then ((F_X8_failHere (gsub w e_shBR_shT_1)).bind fun q35 => (if q35.1 = 0 ∨ q35.1 = 1 then some (q35.1, (gput w e_shBR_shT_1 q35.2)) else none)) else (if (w.1 1 2) = (12 : Int32) then ((F_X1_readClient w).bind fun q38 => (if q38.1 = 0 ∨ q38.1 = 1 then some (q38.1, q38.2) else none)) else ((F_X8_failHere (gsub w e_shBR_shT_1)).bind fun q40 => (if q40.1 = 0 ∨ q40.1 = 1 then some (q40.1, (gput w e_shBR_shT_1 q40.2)) else none)))))))))))))))
def b_X1_readParts_19 (k19 : Int32 → GW → Option (Int32 × GW)) (x1 : Int32) (w : GW) : Option (Int32 × GW) := (if (901 : Int32) ≤ x1 then (some ((1 : Int32), w)) else (if (w.1 1 1) = 0 then (some ((1 : Int32), w)) else ((F_X1_readPart w).bind fun q4 => (if q4.1 = 0 then (some ((0 : Int32), q4.2)) else (k19 (x1 + (1 : Int32)) q4.2)))))
def f_X1_readParts_19 : Nat → Int32 → GW → Option (Int32 × GW)
  | 0, _, _ => none
  | n + 1, x1, w => b_X1_readParts_19 (f_X1_readParts_19 n) x1 w
def F_X1_readParts (w : GW) : Option (Int32 × GW) := ((F_X0_clear (gsub w e_shBR_shB_6)).bind fun q1 => (f_X1_readParts_19 FU (0 : Int32) (gI (gI (gput w e_shBR_shB_6 q1) 0 2 (0 : Int32)) 0 3 (0 : Int32))))
set_option maxHeartbeats 4000000 in
set_option maxRecDepth 100000 in
theorem c_X1_readOdds (l : Launch) (D : va_G) (cA ad : Nat → Nat) (hin : gInj ad shBR.length) (w : GW) (q : (Int32 × GW)) (hf : F_X1_readOdds w = some q) : gMet l yX1_readOdds cX1_readOdds 1 (some .boolean) 3 163 D cA ad shBR [.ref 0] w (some (.int q.1)) q.2 := by
  refine g_entry (by decide) hin (Nat.le_of_ble_eq_true rfl) ?_
  intro p e s m args below meth c C
  unfold F_X1_readOdds at hf
  show gW p l e (gRm 3 163) s m args below meth c D cA ad shBR 1 0 0 (gQ below D cA ad shBR (some (.int q.1)) q.2 args s) 0 [(0, .ref 0)] [] w
  refine g_aload_n C (gdec dt_X1_readOdds 0 rfl) (i := 0) rfl rfl ?_
  refine g_geti C kf_X1_9 rfl rfl (gdec dt_X1_readOdds 1 rfl) ?_
  refine g_if_eq C (tgt := 16) (gdec dt_X1_readOdds 2 rfl) (by decide) (fun hc1 => ?_) (fun hc1 => ?_)
  · have hf := (if_pos hc1).symm.trans hf
    refine g_aload_n C (gdec dt_X1_readOdds 8 rfl) (i := 0) rfl rfl ?_
    refine g_iconst C (gdec dt_X1_readOdds 9 rfl) ic_1 ?_
    refine g_putz C kf_X1_9 rfl rfl (Or.inr rfl) (gdec dt_X1_readOdds 10 rfl) ?_
    refine g_aload_n C (gdec dt_X1_readOdds 11 rfl) (i := 0) rfl rfl ?_
    refine g_getr C (j := 1) kf_X1_18 rfl rfl (gdec dt_X1_readOdds 12 rfl) ?_
    obtain ⟨q2, hq2, hf⟩ := Option.bind_eq_some_iff.mp hf
    refine g_invVs e_shBR_shT_1 [] [] C (c_X8_advance l D cA _ (gInj_sub em_e_shBR_shT_1 (gCi C)) (gsub (gI w 0 2 (1 : Int32)) e_shBR_shT_1)  q2 hq2) em_e_shBR_shT_1 (by decide) rfl kT_X8_advance kl_X1_69 kim_X8_advance kse_X8_advance rfl rfl (i := 1) rfl rfl ⟨by decide, by decide⟩ gk0 (Nat.le_of_ble_eq_true rfl) (gdec dt_X1_readOdds 13 rfl) rfl (st2 := []) (w2 := (gput (gI w 0 2 (1 : Int32)) e_shBR_shT_1 q2)) rfl rfl ?_
    refine g_aload_n C (gdec dt_X1_readOdds 14 rfl) (i := 0) rfl rfl ?_
    refine g_getr C (j := 1) kf_X1_18 rfl rfl (gdec dt_X1_readOdds 15 rfl) ?_
    refine g_iconst C (gdec dt_X1_readOdds 16 rfl) ic_0 ?_
    refine g_bipush C (gdec dt_X1_readOdds 17 rfl) bc_16 ?_
    obtain ⟨q3, hq3, hf⟩ := Option.bind_eq_some_iff.mp hf
    refine g_invVs e_shBR_shT_1 [.int (0 : Int32), .int (16 : Int32)] [] C (c_X8_passNumber l D cA _ (gInj_sub em_e_shBR_shT_1 (gCi C)) (gsub (gput (gI w 0 2 (1 : Int32)) e_shBR_shT_1 q2) e_shBR_shT_1) (0 : Int32) (16 : Int32) q3 hq3) em_e_shBR_shT_1 (by decide) rfl kT_X8_passNumber kl_X1_72 kim_X8_passNumber kse_X8_passNumber rfl rfl (i := 1) rfl rfl ⟨by decide, by decide⟩ gk0 (Nat.le_of_ble_eq_true rfl) (gdec dt_X1_readOdds 18 rfl) rfl (st2 := [.int q3.1]) (w2 := (gput (gput (gI w 0 2 (1 : Int32)) e_shBR_shT_1 q2) e_shBR_shT_1 q3.2)) rfl rfl ?_
    refine g_if_ne C (tgt := 43) (gdec dt_X1_readOdds 19 rfl) (by decide) (fun hc4 => ?_) (fun hc4 => ?_)
    · have hf := (if_neg hc4).symm.trans hf
      refine g_aload_n C (gdec dt_X1_readOdds 22 rfl) (i := 0) rfl rfl ?_
      refine g_getr C (j := 6) kf_X1_22 rfl rfl (gdec dt_X1_readOdds 23 rfl) ?_
      refine g_aload_n C (gdec dt_X1_readOdds 24 rfl) (i := 0) rfl rfl ?_
      refine g_getr C (j := 1) kf_X1_18 rfl rfl (gdec dt_X1_readOdds 25 rfl) ?_
      obtain ⟨q5, hq5, hf⟩ := Option.bind_eq_some_iff.mp hf
      refine g_invVs e_shBR_shT_1 [] [.ref 6] C (c_X8_passedNumber l D cA _ (gInj_sub em_e_shBR_shT_1 (gCi C)) (gsub (gput (gput (gI w 0 2 (1 : Int32)) e_shBR_shT_1 q2) e_shBR_shT_1 q3.2) e_shBR_shT_1)  q5 hq5) em_e_shBR_shT_1 (by decide) rfl kT_X8_passedNumber kl_X1_76 kim_X8_passedNumber kse_X8_passedNumber rfl rfl (i := 1) rfl rfl ⟨by decide, by decide⟩ gk0 (Nat.le_of_ble_eq_true rfl) (gdec dt_X1_readOdds 26 rfl) rfl (st2 := [.int q5, .ref 6]) (w2 := (gput (gput (gI w 0 2 (1 : Int32)) e_shBR_shT_1 q2) e_shBR_shT_1 q3.2)) rfl (gput_sub _ _) ?_
      refine g_puti C kf_X1_80 rfl rfl (gdec dt_X1_readOdds 27 rfl) ?_
      refine g_aload_n C (gdec dt_X1_readOdds 28 rfl) (i := 0) rfl rfl ?_
      refine g_getr C (j := 1) kf_X1_18 rfl rfl (gdec dt_X1_readOdds 29 rfl) ?_
      obtain ⟨q6, hq6, hf⟩ := Option.bind_eq_some_iff.mp hf
      refine g_invVs e_shBR_shT_1 [] [] C (c_X8_passSemicolon l D cA _ (gInj_sub em_e_shBR_shT_1 (gCi C)) (gsub (gI (gput (gput (gI w 0 2 (1 : Int32)) e_shBR_shT_1 q2) e_shBR_shT_1 q3.2) 6 0 q5) e_shBR_shT_1)  q6 hq6) em_e_shBR_shT_1 (by decide) rfl kT_X8_passSemicolon kl_X1_83 kim_X8_passSemicolon kse_X8_passSemicolon rfl rfl (i := 1) rfl rfl ⟨by decide, by decide⟩ gk0 (Nat.le_of_ble_eq_true rfl) (gdec dt_X1_readOdds 30 rfl) rfl (st2 := [.int q6.1]) (w2 := (gput (gI (gput (gput (gI w 0 2 (1 : Int32)) e_shBR_shT_1 q2) e_shBR_shT_1 q3.2) 6 0 q5) e_shBR_shT_1 q6.2)) rfl rfl ?_
      obtain ⟨hb7, hf⟩ := gif hf
      cases hf
      exact g_zret C hb7 rfl (gdec dt_X1_readOdds 31 rfl)
    · have hf := (if_pos hc4).symm.trans hf
      refine g_iconst C (gdec dt_X1_readOdds 20 rfl) ic_0 ?_
      cases hf
      exact g_zret C (Or.inl rfl) rfl (gdec dt_X1_readOdds 21 rfl)
  · have hf := (if_neg hc1).symm.trans hf
    refine g_aload_n C (gdec dt_X1_readOdds 3 rfl) (i := 0) rfl rfl ?_
    refine g_getr C (j := 1) kf_X1_18 rfl rfl (gdec dt_X1_readOdds 4 rfl) ?_
    refine g_iconst C (gdec dt_X1_readOdds 5 rfl) ic_5 ?_
    obtain ⟨q8, hq8, hf⟩ := Option.bind_eq_some_iff.mp hf
    refine g_invVs e_shBR_shT_1 [.int (5 : Int32)] [] C (c_X8_fail l D cA _ (gInj_sub em_e_shBR_shT_1 (gCi C)) (gsub w e_shBR_shT_1) (5 : Int32) q8 hq8) em_e_shBR_shT_1 (by decide) rfl kT_X8_fail kl_X1_65 kim_X8_fail kse_X8_fail rfl rfl (i := 1) rfl rfl ⟨by decide, by decide⟩ gk0 (Nat.le_of_ble_eq_true rfl) (gdec dt_X1_readOdds 6 rfl) rfl (st2 := [.int q8.1]) (w2 := (gput w e_shBR_shT_1 q8.2)) rfl rfl ?_
    obtain ⟨hb9, hf⟩ := gif hf
    cases hf
    exact g_zret C hb9 rfl (gdec dt_X1_readOdds 7 rfl)
set_option maxHeartbeats 4000000 in
set_option maxRecDepth 100000 in
theorem c_X1_readCash (l : Launch) (D : va_G) (cA ad : Nat → Nat) (hin : gInj ad shBR.length) (w : GW) (q : (Int32 × GW)) (hf : F_X1_readCash w = some q) : gMet l yX1_readCash cX1_readCash 1 (some .boolean) 3 163 D cA ad shBR [.ref 0] w (some (.int q.1)) q.2 := by
  refine g_entry (by decide) hin (Nat.le_of_ble_eq_true rfl) ?_
  intro p e s m args below meth c C
  unfold F_X1_readCash at hf
  show gW p l e (gRm 3 163) s m args below meth c D cA ad shBR 1 0 0 (gQ below D cA ad shBR (some (.int q.1)) q.2 args s) 0 [(0, .ref 0)] [] w
  refine g_aload_n C (gdec dt_X1_readCash 0 rfl) (i := 0) rfl rfl ?_
  refine g_geti C kf_X1_15 rfl rfl (gdec dt_X1_readCash 1 rfl) ?_
  refine g_if_eq C (tgt := 16) (gdec dt_X1_readCash 2 rfl) (by decide) (fun hc1 => ?_) (fun hc1 => ?_)
  · have hf := (if_pos hc1).symm.trans hf
    refine g_aload_n C (gdec dt_X1_readCash 8 rfl) (i := 0) rfl rfl ?_
    refine g_iconst C (gdec dt_X1_readCash 9 rfl) ic_1 ?_
    refine g_putz C kf_X1_15 rfl rfl (Or.inr rfl) (gdec dt_X1_readCash 10 rfl) ?_
    refine g_aload_n C (gdec dt_X1_readCash 11 rfl) (i := 0) rfl rfl ?_
    refine g_getr C (j := 1) kf_X1_18 rfl rfl (gdec dt_X1_readCash 12 rfl) ?_
    obtain ⟨q2, hq2, hf⟩ := Option.bind_eq_some_iff.mp hf
    refine g_invVs e_shBR_shT_1 [] [] C (c_X8_advance l D cA _ (gInj_sub em_e_shBR_shT_1 (gCi C)) (gsub (gI w 0 3 (1 : Int32)) e_shBR_shT_1)  q2 hq2) em_e_shBR_shT_1 (by decide) rfl kT_X8_advance kl_X1_69 kim_X8_advance kse_X8_advance rfl rfl (i := 1) rfl rfl ⟨by decide, by decide⟩ gk0 (Nat.le_of_ble_eq_true rfl) (gdec dt_X1_readCash 13 rfl) rfl (st2 := []) (w2 := (gput (gI w 0 3 (1 : Int32)) e_shBR_shT_1 q2)) rfl rfl ?_
    refine g_aload_n C (gdec dt_X1_readCash 14 rfl) (i := 0) rfl rfl ?_
    refine g_getr C (j := 1) kf_X1_18 rfl rfl (gdec dt_X1_readCash 15 rfl) ?_
    refine g_iconst C (gdec dt_X1_readCash 16 rfl) ic_0 ?_
    refine g_sipush C (gdec dt_X1_readCash 17 rfl) sc_9999 ?_
    obtain ⟨q3, hq3, hf⟩ := Option.bind_eq_some_iff.mp hf
    refine g_invVs e_shBR_shT_1 [.int (0 : Int32), .int (9999 : Int32)] [] C (c_X8_passNumber l D cA _ (gInj_sub em_e_shBR_shT_1 (gCi C)) (gsub (gput (gI w 0 3 (1 : Int32)) e_shBR_shT_1 q2) e_shBR_shT_1) (0 : Int32) (9999 : Int32) q3 hq3) em_e_shBR_shT_1 (by decide) rfl kT_X8_passNumber kl_X1_72 kim_X8_passNumber kse_X8_passNumber rfl rfl (i := 1) rfl rfl ⟨by decide, by decide⟩ gk0 (Nat.le_of_ble_eq_true rfl) (gdec dt_X1_readCash 18 rfl) rfl (st2 := [.int q3.1]) (w2 := (gput (gput (gI w 0 3 (1 : Int32)) e_shBR_shT_1 q2) e_shBR_shT_1 q3.2)) rfl rfl ?_
    refine g_if_ne C (tgt := 44) (gdec dt_X1_readCash 19 rfl) (by decide) (fun hc4 => ?_) (fun hc4 => ?_)
    · have hf := (if_neg hc4).symm.trans hf
      refine g_aload_n C (gdec dt_X1_readCash 22 rfl) (i := 0) rfl rfl ?_
      refine g_getr C (j := 6) kf_X1_22 rfl rfl (gdec dt_X1_readCash 23 rfl) ?_
      refine g_aload_n C (gdec dt_X1_readCash 24 rfl) (i := 0) rfl rfl ?_
      refine g_getr C (j := 1) kf_X1_18 rfl rfl (gdec dt_X1_readCash 25 rfl) ?_
      obtain ⟨q5, hq5, hf⟩ := Option.bind_eq_some_iff.mp hf
      refine g_invVs e_shBR_shT_1 [] [.ref 6] C (c_X8_passedNumber l D cA _ (gInj_sub em_e_shBR_shT_1 (gCi C)) (gsub (gput (gput (gI w 0 3 (1 : Int32)) e_shBR_shT_1 q2) e_shBR_shT_1 q3.2) e_shBR_shT_1)  q5 hq5) em_e_shBR_shT_1 (by decide) rfl kT_X8_passedNumber kl_X1_76 kim_X8_passedNumber kse_X8_passedNumber rfl rfl (i := 1) rfl rfl ⟨by decide, by decide⟩ gk0 (Nat.le_of_ble_eq_true rfl) (gdec dt_X1_readCash 26 rfl) rfl (st2 := [.int q5, .ref 6]) (w2 := (gput (gput (gI w 0 3 (1 : Int32)) e_shBR_shT_1 q2) e_shBR_shT_1 q3.2)) rfl (gput_sub _ _) ?_
      refine g_puti C kf_X1_86 rfl rfl (gdec dt_X1_readCash 27 rfl) ?_
      refine g_aload_n C (gdec dt_X1_readCash 28 rfl) (i := 0) rfl rfl ?_
      refine g_getr C (j := 1) kf_X1_18 rfl rfl (gdec dt_X1_readCash 29 rfl) ?_
      obtain ⟨q6, hq6, hf⟩ := Option.bind_eq_some_iff.mp hf
      refine g_invVs e_shBR_shT_1 [] [] C (c_X8_passSemicolon l D cA _ (gInj_sub em_e_shBR_shT_1 (gCi C)) (gsub (gI (gput (gput (gI w 0 3 (1 : Int32)) e_shBR_shT_1 q2) e_shBR_shT_1 q3.2) 6 1 q5) e_shBR_shT_1)  q6 hq6) em_e_shBR_shT_1 (by decide) rfl kT_X8_passSemicolon kl_X1_83 kim_X8_passSemicolon kse_X8_passSemicolon rfl rfl (i := 1) rfl rfl ⟨by decide, by decide⟩ gk0 (Nat.le_of_ble_eq_true rfl) (gdec dt_X1_readCash 30 rfl) rfl (st2 := [.int q6.1]) (w2 := (gput (gI (gput (gput (gI w 0 3 (1 : Int32)) e_shBR_shT_1 q2) e_shBR_shT_1 q3.2) 6 1 q5) e_shBR_shT_1 q6.2)) rfl rfl ?_
      obtain ⟨hb7, hf⟩ := gif hf
      cases hf
      exact g_zret C hb7 rfl (gdec dt_X1_readCash 31 rfl)
    · have hf := (if_pos hc4).symm.trans hf
      refine g_iconst C (gdec dt_X1_readCash 20 rfl) ic_0 ?_
      cases hf
      exact g_zret C (Or.inl rfl) rfl (gdec dt_X1_readCash 21 rfl)
  · have hf := (if_neg hc1).symm.trans hf
    refine g_aload_n C (gdec dt_X1_readCash 3 rfl) (i := 0) rfl rfl ?_
    refine g_getr C (j := 1) kf_X1_18 rfl rfl (gdec dt_X1_readCash 4 rfl) ?_
    refine g_iconst C (gdec dt_X1_readCash 5 rfl) ic_5 ?_
    obtain ⟨q8, hq8, hf⟩ := Option.bind_eq_some_iff.mp hf
    refine g_invVs e_shBR_shT_1 [.int (5 : Int32)] [] C (c_X8_fail l D cA _ (gInj_sub em_e_shBR_shT_1 (gCi C)) (gsub w e_shBR_shT_1) (5 : Int32) q8 hq8) em_e_shBR_shT_1 (by decide) rfl kT_X8_fail kl_X1_65 kim_X8_fail kse_X8_fail rfl rfl (i := 1) rfl rfl ⟨by decide, by decide⟩ gk0 (Nat.le_of_ble_eq_true rfl) (gdec dt_X1_readCash 6 rfl) rfl (st2 := [.int q8.1]) (w2 := (gput w e_shBR_shT_1 q8.2)) rfl rfl ?_
    obtain ⟨hb9, hf⟩ := gif hf
    cases hf
    exact g_zret C hb9 rfl (gdec dt_X1_readCash 7 rfl)
set_option maxHeartbeats 4000000 in
set_option maxRecDepth 100000 in
theorem c_X1_readCorner (l : Launch) (D : va_G) (cA ad : Nat → Nat) (hin : gInj ad shBR.length) (w : GW) (q : (Int32 × GW)) (hf : F_X1_readCorner w = some q) : gMet l yX1_readCorner cX1_readCorner 1 (some .boolean) 3 163 D cA ad shBR [.ref 0] w (some (.int q.1)) q.2 := by
  refine g_entry (by decide) hin (Nat.le_of_ble_eq_true rfl) ?_
  intro p e s m args below meth c C
  unfold F_X1_readCorner at hf
  show gW p l e (gRm 3 163) s m args below meth c D cA ad shBR 1 0 0 (gQ below D cA ad shBR (some (.int q.1)) q.2 args s) 0 [(0, .ref 0)] [] w
  refine g_aload_n C (gdec dt_X1_readCorner 0 rfl) (i := 0) rfl rfl ?_
  refine g_getr C (j := 6) kf_X1_22 rfl rfl (gdec dt_X1_readCorner 1 rfl) ?_
  refine g_geti C kf_X1_89 rfl rfl (gdec dt_X1_readCorner 2 rfl) ?_
  refine g_bipush C (gdec dt_X1_readCorner 3 rfl) bc_7 ?_
  refine g_icmp_lt C (tgt := 22) (gdec dt_X1_readCorner 4 rfl) (by decide) (fun hc1 => ?_) (fun hc1 => ?_)
  · have hf := (if_pos hc1).symm.trans hf
    refine g_aload_n C (gdec dt_X1_readCorner 10 rfl) (i := 0) rfl rfl ?_
    refine g_getr C (j := 1) kf_X1_18 rfl rfl (gdec dt_X1_readCorner 11 rfl) ?_
    obtain ⟨q2, hq2, hf⟩ := Option.bind_eq_some_iff.mp hf
    refine g_invVs e_shBR_shT_1 [] [] C (c_X8_advance l D cA _ (gInj_sub em_e_shBR_shT_1 (gCi C)) (gsub w e_shBR_shT_1)  q2 hq2) em_e_shBR_shT_1 (by decide) rfl kT_X8_advance kl_X1_69 kim_X8_advance kse_X8_advance rfl rfl (i := 1) rfl rfl ⟨by decide, by decide⟩ gk0 (Nat.le_of_ble_eq_true rfl) (gdec dt_X1_readCorner 12 rfl) rfl (st2 := []) (w2 := (gput w e_shBR_shT_1 q2)) rfl rfl ?_
    refine g_aload_n C (gdec dt_X1_readCorner 13 rfl) (i := 0) rfl rfl ?_
    refine g_getr C (j := 1) kf_X1_18 rfl rfl (gdec dt_X1_readCorner 14 rfl) ?_
    refine g_iconst C (gdec dt_X1_readCorner 15 rfl) ic_3 ?_
    obtain ⟨q3, hq3, hf⟩ := Option.bind_eq_some_iff.mp hf
    refine g_invVs e_shBR_shT_1 [.int (3 : Int32)] [] C (c_X8_passWord l D cA _ (gInj_sub em_e_shBR_shT_1 (gCi C)) (gsub (gput w e_shBR_shT_1 q2) e_shBR_shT_1) (3 : Int32) q3 hq3) em_e_shBR_shT_1 (by decide) rfl kT_X8_passWord kl_X1_92 kim_X8_passWord kse_X8_passWord rfl rfl (i := 1) rfl rfl ⟨by decide, by decide⟩ gk0 (Nat.le_of_ble_eq_true rfl) (gdec dt_X1_readCorner 16 rfl) rfl (st2 := [.int q3.1]) (w2 := (gput (gput w e_shBR_shT_1 q2) e_shBR_shT_1 q3.2)) rfl rfl ?_
    refine g_if_eq C (tgt := 53) (gdec dt_X1_readCorner 17 rfl) (by decide) (fun hc4 => ?_) (fun hc4 => ?_)
    · have hf := (if_pos hc4).symm.trans hf
      refine g_iconst C (gdec dt_X1_readCorner 24 rfl) ic_0 ?_
      cases hf
      exact g_zret C (Or.inl rfl) rfl (gdec dt_X1_readCorner 25 rfl)
    · have hf := (if_neg hc4).symm.trans hf
      refine g_aload_n C (gdec dt_X1_readCorner 18 rfl) (i := 0) rfl rfl ?_
      refine g_getr C (j := 1) kf_X1_18 rfl rfl (gdec dt_X1_readCorner 19 rfl) ?_
      refine g_iconst C (gdec dt_X1_readCorner 20 rfl) ic_0 ?_
      refine g_bipush C (gdec dt_X1_readCorner 21 rfl) bc_9 ?_
      obtain ⟨q5, hq5, hf⟩ := Option.bind_eq_some_iff.mp hf
      refine g_invVs e_shBR_shT_1 [.int (0 : Int32), .int (9 : Int32)] [] C (c_X8_passNumber l D cA _ (gInj_sub em_e_shBR_shT_1 (gCi C)) (gsub (gput (gput w e_shBR_shT_1 q2) e_shBR_shT_1 q3.2) e_shBR_shT_1) (0 : Int32) (9 : Int32) q5 hq5) em_e_shBR_shT_1 (by decide) rfl kT_X8_passNumber kl_X1_72 kim_X8_passNumber kse_X8_passNumber rfl rfl (i := 1) rfl rfl ⟨by decide, by decide⟩ gk0 (Nat.le_of_ble_eq_true rfl) (gdec dt_X1_readCorner 22 rfl) rfl (st2 := [.int q5.1]) (w2 := (gput (gput (gput w e_shBR_shT_1 q2) e_shBR_shT_1 q3.2) e_shBR_shT_1 q5.2)) rfl rfl ?_
      refine g_if_ne C (tgt := 55) (gdec dt_X1_readCorner 23 rfl) (by decide) (fun hc6 => ?_) (fun hc6 => ?_)
      · have hf := (if_neg hc6).symm.trans hf
        refine g_aload_n C (gdec dt_X1_readCorner 26 rfl) (i := 0) rfl rfl ?_
        refine g_getr C (j := 6) kf_X1_22 rfl rfl (gdec dt_X1_readCorner 27 rfl) ?_
        refine g_aload_n C (gdec dt_X1_readCorner 28 rfl) (i := 0) rfl rfl ?_
        refine g_getr C (j := 1) kf_X1_18 rfl rfl (gdec dt_X1_readCorner 29 rfl) ?_
        obtain ⟨q7, hq7, hf⟩ := Option.bind_eq_some_iff.mp hf
        refine g_invVs e_shBR_shT_1 [] [.ref 6] C (c_X8_passedNumber l D cA _ (gInj_sub em_e_shBR_shT_1 (gCi C)) (gsub (gput (gput (gput w e_shBR_shT_1 q2) e_shBR_shT_1 q3.2) e_shBR_shT_1 q5.2) e_shBR_shT_1)  q7 hq7) em_e_shBR_shT_1 (by decide) rfl kT_X8_passedNumber kl_X1_76 kim_X8_passedNumber kse_X8_passedNumber rfl rfl (i := 1) rfl rfl ⟨by decide, by decide⟩ gk0 (Nat.le_of_ble_eq_true rfl) (gdec dt_X1_readCorner 30 rfl) rfl (st2 := [.int q7, .ref 6]) (w2 := (gput (gput (gput w e_shBR_shT_1 q2) e_shBR_shT_1 q3.2) e_shBR_shT_1 q5.2)) rfl (gput_sub _ _) ?_
        obtain ⟨q8, hq8, hf⟩ := Option.bind_eq_some_iff.mp hf
        refine g_invVs e_shBR_shB_6 [.int q7] [] C (c_X0_addCorner l D cA _ (gInj_sub em_e_shBR_shB_6 (gCi C)) (gsub (gput (gput (gput w e_shBR_shT_1 q2) e_shBR_shT_1 q3.2) e_shBR_shT_1 q5.2) e_shBR_shB_6) q7 q8 hq8) em_e_shBR_shB_6 (by decide) rfl kT_X0_addCorner kl_X1_95 kim_X0_addCorner kse_X0_addCorner rfl rfl (i := 6) rfl rfl ⟨by decide, by decide⟩ gk0 (Nat.le_of_ble_eq_true rfl) (gdec dt_X1_readCorner 31 rfl) rfl (st2 := []) (w2 := (gput (gput (gput (gput w e_shBR_shT_1 q2) e_shBR_shT_1 q3.2) e_shBR_shT_1 q5.2) e_shBR_shB_6 q8)) rfl rfl ?_
        refine g_aload_n C (gdec dt_X1_readCorner 32 rfl) (i := 0) rfl rfl ?_
        refine g_getr C (j := 1) kf_X1_18 rfl rfl (gdec dt_X1_readCorner 33 rfl) ?_
        obtain ⟨q9, hq9, hf⟩ := Option.bind_eq_some_iff.mp hf
        refine g_invVs e_shBR_shT_1 [] [] C (c_X8_passSemicolon l D cA _ (gInj_sub em_e_shBR_shT_1 (gCi C)) (gsub (gput (gput (gput (gput w e_shBR_shT_1 q2) e_shBR_shT_1 q3.2) e_shBR_shT_1 q5.2) e_shBR_shB_6 q8) e_shBR_shT_1)  q9 hq9) em_e_shBR_shT_1 (by decide) rfl kT_X8_passSemicolon kl_X1_83 kim_X8_passSemicolon kse_X8_passSemicolon rfl rfl (i := 1) rfl rfl ⟨by decide, by decide⟩ gk0 (Nat.le_of_ble_eq_true rfl) (gdec dt_X1_readCorner 34 rfl) rfl (st2 := [.int q9.1]) (w2 := (gput (gput (gput (gput (gput w e_shBR_shT_1 q2) e_shBR_shT_1 q3.2) e_shBR_shT_1 q5.2) e_shBR_shB_6 q8) e_shBR_shT_1 q9.2)) rfl rfl ?_
        obtain ⟨hb10, hf⟩ := gif hf
        cases hf
        exact g_zret C hb10 rfl (gdec dt_X1_readCorner 35 rfl)
      · have hf := (if_pos hc6).symm.trans hf
        refine g_iconst C (gdec dt_X1_readCorner 24 rfl) ic_0 ?_
        cases hf
        exact g_zret C (Or.inl rfl) rfl (gdec dt_X1_readCorner 25 rfl)
  · have hf := (if_neg hc1).symm.trans hf
    refine g_aload_n C (gdec dt_X1_readCorner 5 rfl) (i := 0) rfl rfl ?_
    refine g_getr C (j := 1) kf_X1_18 rfl rfl (gdec dt_X1_readCorner 6 rfl) ?_
    refine g_bipush C (gdec dt_X1_readCorner 7 rfl) bc_6 ?_
    obtain ⟨q11, hq11, hf⟩ := Option.bind_eq_some_iff.mp hf
    refine g_invVs e_shBR_shT_1 [.int (6 : Int32)] [] C (c_X8_fail l D cA _ (gInj_sub em_e_shBR_shT_1 (gCi C)) (gsub w e_shBR_shT_1) (6 : Int32) q11 hq11) em_e_shBR_shT_1 (by decide) rfl kT_X8_fail kl_X1_65 kim_X8_fail kse_X8_fail rfl rfl (i := 1) rfl rfl ⟨by decide, by decide⟩ gk0 (Nat.le_of_ble_eq_true rfl) (gdec dt_X1_readCorner 8 rfl) rfl (st2 := [.int q11.1]) (w2 := (gput w e_shBR_shT_1 q11.2)) rfl rfl ?_
    obtain ⟨hb12, hf⟩ := gif hf
    cases hf
    exact g_zret C hb12 rfl (gdec dt_X1_readCorner 9 rfl)
set_option maxHeartbeats 4000000 in
set_option maxRecDepth 100000 in
theorem c_X1_readRank (l : Launch) (D : va_G) (cA ad : Nat → Nat) (hin : gInj ad shBR.length) (w : GW) (q : (Int32 × GW)) (hf : F_X1_readRank w = some q) : gMet l yX1_readRank cX1_readRank 2 (some .boolean) 3 163 D cA ad shBR [.ref 0] w (some (.int q.1)) q.2 := by
  refine g_entry (by decide) hin (Nat.le_of_ble_eq_true rfl) ?_
  intro p e s m args below meth c C
  unfold F_X1_readRank at hf
  show gW p l e (gRm 3 163) s m args below meth c D cA ad shBR 2 0 0 (gQ below D cA ad shBR (some (.int q.1)) q.2 args s) 0 [(0, .ref 0)] [] w
  refine g_aload_n C (gdec dt_X1_readRank 0 rfl) (i := 0) rfl rfl ?_
  refine g_getr C (j := 6) kf_X1_22 rfl rfl (gdec dt_X1_readRank 1 rfl) ?_
  refine g_geti C kf_X1_99 rfl rfl (gdec dt_X1_readRank 2 rfl) ?_
  refine g_iconst C (gdec dt_X1_readRank 3 rfl) ic_5 ?_
  refine g_icmp_lt C (tgt := 21) (gdec dt_X1_readRank 4 rfl) (by decide) (fun hc1 => ?_) (fun hc1 => ?_)
  · have hf := (if_pos hc1).symm.trans hf
    refine g_aload_n C (gdec dt_X1_readRank 10 rfl) (i := 0) rfl rfl ?_
    refine g_getr C (j := 1) kf_X1_18 rfl rfl (gdec dt_X1_readRank 11 rfl) ?_
    obtain ⟨q2, hq2, hf⟩ := Option.bind_eq_some_iff.mp hf
    refine g_invVs e_shBR_shT_1 [] [] C (c_X8_advance l D cA _ (gInj_sub em_e_shBR_shT_1 (gCi C)) (gsub w e_shBR_shT_1)  q2 hq2) em_e_shBR_shT_1 (by decide) rfl kT_X8_advance kl_X1_69 kim_X8_advance kse_X8_advance rfl rfl (i := 1) rfl rfl ⟨by decide, by decide⟩ gk0 (Nat.le_of_ble_eq_true rfl) (gdec dt_X1_readRank 12 rfl) rfl (st2 := []) (w2 := (gput w e_shBR_shT_1 q2)) rfl rfl ?_
    refine g_aload_n C (gdec dt_X1_readRank 13 rfl) (i := 0) rfl rfl ?_
    refine g_getr C (j := 1) kf_X1_18 rfl rfl (gdec dt_X1_readRank 14 rfl) ?_
    refine g_iconst C (gdec dt_X1_readRank 15 rfl) ic_5 ?_
    obtain ⟨q3, hq3, hf⟩ := Option.bind_eq_some_iff.mp hf
    refine g_invVs e_shBR_shT_1 [.int (5 : Int32)] [] C (c_X8_passWord l D cA _ (gInj_sub em_e_shBR_shT_1 (gCi C)) (gsub (gput w e_shBR_shT_1 q2) e_shBR_shT_1) (5 : Int32) q3 hq3) em_e_shBR_shT_1 (by decide) rfl kT_X8_passWord kl_X1_92 kim_X8_passWord kse_X8_passWord rfl rfl (i := 1) rfl rfl ⟨by decide, by decide⟩ gk0 (Nat.le_of_ble_eq_true rfl) (gdec dt_X1_readRank 16 rfl) rfl (st2 := [.int q3.1]) (w2 := (gput (gput w e_shBR_shT_1 q2) e_shBR_shT_1 q3.2)) rfl rfl ?_
    refine g_if_eq C (tgt := 58) (gdec dt_X1_readRank 17 rfl) (by decide) (fun hc4 => ?_) (fun hc4 => ?_)
    · have hf := (if_pos hc4).symm.trans hf
      refine g_iconst C (gdec dt_X1_readRank 26 rfl) ic_0 ?_
      cases hf
      exact g_zret C (Or.inl rfl) rfl (gdec dt_X1_readRank 27 rfl)
    · have hf := (if_neg hc4).symm.trans hf
      refine g_aload_n C (gdec dt_X1_readRank 18 rfl) (i := 0) rfl rfl ?_
      refine g_getr C (j := 1) kf_X1_18 rfl rfl (gdec dt_X1_readRank 19 rfl) ?_
      refine g_aload_n C (gdec dt_X1_readRank 20 rfl) (i := 0) rfl rfl ?_
      refine g_getr C (j := 6) kf_X1_22 rfl rfl (gdec dt_X1_readRank 21 rfl) ?_
      obtain ⟨q5, hq5, hf⟩ := Option.bind_eq_some_iff.mp hf
      refine g_invVs e_shBR_shB_6 [] [.ref 1] C (c_X0_leastNextAt l D cA _ (gInj_sub em_e_shBR_shB_6 (gCi C)) (gsub (gput (gput w e_shBR_shT_1 q2) e_shBR_shT_1 q3.2) e_shBR_shB_6)  q5 hq5) em_e_shBR_shB_6 (by decide) rfl kT_X0_leastNextAt kl_X1_102 kim_X0_leastNextAt kse_X0_leastNextAt rfl rfl (i := 6) rfl rfl ⟨by decide, by decide⟩ gk0 (Nat.le_of_ble_eq_true rfl) (gdec dt_X1_readRank 22 rfl) rfl (st2 := [.int q5, .ref 1]) (w2 := (gput (gput w e_shBR_shT_1 q2) e_shBR_shT_1 q3.2)) rfl (gput_sub _ _) ?_
      refine g_bipush C (gdec dt_X1_readRank 23 rfl) bc_99 ?_
      obtain ⟨q6, hq6, hf⟩ := Option.bind_eq_some_iff.mp hf
      refine g_invVs e_shBR_shT_1 [.int q5, .int (99 : Int32)] [] C (c_X8_passNumber l D cA _ (gInj_sub em_e_shBR_shT_1 (gCi C)) (gsub (gput (gput w e_shBR_shT_1 q2) e_shBR_shT_1 q3.2) e_shBR_shT_1) q5 (99 : Int32) q6 hq6) em_e_shBR_shT_1 (by decide) rfl kT_X8_passNumber kl_X1_72 kim_X8_passNumber kse_X8_passNumber rfl rfl (i := 1) rfl rfl ⟨by decide, by decide⟩ gk0 (Nat.le_of_ble_eq_true rfl) (gdec dt_X1_readRank 24 rfl) rfl (st2 := [.int q6.1]) (w2 := (gput (gput (gput w e_shBR_shT_1 q2) e_shBR_shT_1 q3.2) e_shBR_shT_1 q6.2)) rfl rfl ?_
      refine g_if_ne C (tgt := 60) (gdec dt_X1_readRank 25 rfl) (by decide) (fun hc7 => ?_) (fun hc7 => ?_)
      · have hf := (if_neg hc7).symm.trans hf
        refine g_aload_n C (gdec dt_X1_readRank 28 rfl) (i := 0) rfl rfl ?_
        refine g_getr C (j := 1) kf_X1_18 rfl rfl (gdec dt_X1_readRank 29 rfl) ?_
        obtain ⟨q8, hq8, hf⟩ := Option.bind_eq_some_iff.mp hf
        refine g_invVs e_shBR_shT_1 [] [] C (c_X8_passedNumber l D cA _ (gInj_sub em_e_shBR_shT_1 (gCi C)) (gsub (gput (gput (gput w e_shBR_shT_1 q2) e_shBR_shT_1 q3.2) e_shBR_shT_1 q6.2) e_shBR_shT_1)  q8 hq8) em_e_shBR_shT_1 (by decide) rfl kT_X8_passedNumber kl_X1_76 kim_X8_passedNumber kse_X8_passedNumber rfl rfl (i := 1) rfl rfl ⟨by decide, by decide⟩ gk0 (Nat.le_of_ble_eq_true rfl) (gdec dt_X1_readRank 30 rfl) rfl (st2 := [.int q8]) (w2 := (gput (gput (gput w e_shBR_shT_1 q2) e_shBR_shT_1 q3.2) e_shBR_shT_1 q6.2)) rfl (gput_sub _ _) ?_
        refine g_istore_n C (gdec dt_X1_readRank 31 rfl) (i := 1) rfl (by decide) (lo2 := [(1, .int q8), (0, .ref 0)]) rfl ?_
        refine g_aload_n C (gdec dt_X1_readRank 32 rfl) (i := 0) rfl rfl ?_
        refine g_getr C (j := 1) kf_X1_18 rfl rfl (gdec dt_X1_readRank 33 rfl) ?_
        refine g_bipush C (gdec dt_X1_readRank 34 rfl) bc_6 ?_
        obtain ⟨q9, hq9, hf⟩ := Option.bind_eq_some_iff.mp hf
        refine g_invVs e_shBR_shT_1 [.int (6 : Int32)] [] C (c_X8_passWord l D cA _ (gInj_sub em_e_shBR_shT_1 (gCi C)) (gsub (gput (gput (gput w e_shBR_shT_1 q2) e_shBR_shT_1 q3.2) e_shBR_shT_1 q6.2) e_shBR_shT_1) (6 : Int32) q9 hq9) em_e_shBR_shT_1 (by decide) rfl kT_X8_passWord kl_X1_92 kim_X8_passWord kse_X8_passWord rfl rfl (i := 1) rfl rfl ⟨by decide, by decide⟩ gk0 (Nat.le_of_ble_eq_true rfl) (gdec dt_X1_readRank 35 rfl) rfl (st2 := [.int q9.1]) (w2 := (gput (gput (gput (gput w e_shBR_shT_1 q2) e_shBR_shT_1 q3.2) e_shBR_shT_1 q6.2) e_shBR_shT_1 q9.2)) rfl rfl ?_
        refine g_if_eq C (tgt := 93) (gdec dt_X1_readRank 36 rfl) (by decide) (fun hc10 => ?_) (fun hc10 => ?_)
        · have hf := (if_pos hc10).symm.trans hf
          refine g_iconst C (gdec dt_X1_readRank 43 rfl) ic_0 ?_
          cases hf
          exact g_zret C (Or.inl rfl) rfl (gdec dt_X1_readRank 44 rfl)
        · have hf := (if_neg hc10).symm.trans hf
          refine g_aload_n C (gdec dt_X1_readRank 37 rfl) (i := 0) rfl rfl ?_
          refine g_getr C (j := 1) kf_X1_18 rfl rfl (gdec dt_X1_readRank 38 rfl) ?_
          refine g_iconst C (gdec dt_X1_readRank 39 rfl) ic_0 ?_
          refine g_bipush C (gdec dt_X1_readRank 40 rfl) bc_50 ?_
          obtain ⟨q11, hq11, hf⟩ := Option.bind_eq_some_iff.mp hf
          refine g_invVs e_shBR_shT_1 [.int (0 : Int32), .int (50 : Int32)] [] C (c_X8_passNumber l D cA _ (gInj_sub em_e_shBR_shT_1 (gCi C)) (gsub (gput (gput (gput (gput w e_shBR_shT_1 q2) e_shBR_shT_1 q3.2) e_shBR_shT_1 q6.2) e_shBR_shT_1 q9.2) e_shBR_shT_1) (0 : Int32) (50 : Int32) q11 hq11) em_e_shBR_shT_1 (by decide) rfl kT_X8_passNumber kl_X1_72 kim_X8_passNumber kse_X8_passNumber rfl rfl (i := 1) rfl rfl ⟨by decide, by decide⟩ gk0 (Nat.le_of_ble_eq_true rfl) (gdec dt_X1_readRank 41 rfl) rfl (st2 := [.int q11.1]) (w2 := (gput (gput (gput (gput (gput w e_shBR_shT_1 q2) e_shBR_shT_1 q3.2) e_shBR_shT_1 q6.2) e_shBR_shT_1 q9.2) e_shBR_shT_1 q11.2)) rfl rfl ?_
          refine g_if_ne C (tgt := 95) (gdec dt_X1_readRank 42 rfl) (by decide) (fun hc12 => ?_) (fun hc12 => ?_)
          · have hf := (if_neg hc12).symm.trans hf
            refine g_aload_n C (gdec dt_X1_readRank 45 rfl) (i := 0) rfl rfl ?_
            refine g_getr C (j := 6) kf_X1_22 rfl rfl (gdec dt_X1_readRank 46 rfl) ?_
            refine g_iload_n C (gdec dt_X1_readRank 47 rfl) (i := 1) rfl rfl ?_
            refine g_aload_n C (gdec dt_X1_readRank 48 rfl) (i := 0) rfl rfl ?_
            refine g_getr C (j := 1) kf_X1_18 rfl rfl (gdec dt_X1_readRank 49 rfl) ?_
            obtain ⟨q13, hq13, hf⟩ := Option.bind_eq_some_iff.mp hf
            refine g_invVs e_shBR_shT_1 [] [.int q8, .ref 6] C (c_X8_passedNumber l D cA _ (gInj_sub em_e_shBR_shT_1 (gCi C)) (gsub (gput (gput (gput (gput (gput w e_shBR_shT_1 q2) e_shBR_shT_1 q3.2) e_shBR_shT_1 q6.2) e_shBR_shT_1 q9.2) e_shBR_shT_1 q11.2) e_shBR_shT_1)  q13 hq13) em_e_shBR_shT_1 (by decide) rfl kT_X8_passedNumber kl_X1_76 kim_X8_passedNumber kse_X8_passedNumber rfl rfl (i := 1) rfl rfl ⟨by decide, by decide⟩ gk0 (Nat.le_of_ble_eq_true rfl) (gdec dt_X1_readRank 50 rfl) rfl (st2 := [.int q13, .int q8, .ref 6]) (w2 := (gput (gput (gput (gput (gput w e_shBR_shT_1 q2) e_shBR_shT_1 q3.2) e_shBR_shT_1 q6.2) e_shBR_shT_1 q9.2) e_shBR_shT_1 q11.2)) rfl (gput_sub _ _) ?_
            obtain ⟨q14, hq14, hf⟩ := Option.bind_eq_some_iff.mp hf
            refine g_invVs e_shBR_shB_6 [.int q8, .int q13] [] C (c_X0_addRank l D cA _ (gInj_sub em_e_shBR_shB_6 (gCi C)) (gsub (gput (gput (gput (gput (gput w e_shBR_shT_1 q2) e_shBR_shT_1 q3.2) e_shBR_shT_1 q6.2) e_shBR_shT_1 q9.2) e_shBR_shT_1 q11.2) e_shBR_shB_6) q8 q13 q14 hq14) em_e_shBR_shB_6 (by decide) rfl kT_X0_addRank kl_X1_105 kim_X0_addRank kse_X0_addRank rfl rfl (i := 6) rfl rfl ⟨by decide, by decide⟩ gk0 (Nat.le_of_ble_eq_true rfl) (gdec dt_X1_readRank 51 rfl) rfl (st2 := []) (w2 := (gput (gput (gput (gput (gput (gput w e_shBR_shT_1 q2) e_shBR_shT_1 q3.2) e_shBR_shT_1 q6.2) e_shBR_shT_1 q9.2) e_shBR_shT_1 q11.2) e_shBR_shB_6 q14)) rfl rfl ?_
            refine g_aload_n C (gdec dt_X1_readRank 52 rfl) (i := 0) rfl rfl ?_
            refine g_getr C (j := 1) kf_X1_18 rfl rfl (gdec dt_X1_readRank 53 rfl) ?_
            obtain ⟨q15, hq15, hf⟩ := Option.bind_eq_some_iff.mp hf
            refine g_invVs e_shBR_shT_1 [] [] C (c_X8_passSemicolon l D cA _ (gInj_sub em_e_shBR_shT_1 (gCi C)) (gsub (gput (gput (gput (gput (gput (gput w e_shBR_shT_1 q2) e_shBR_shT_1 q3.2) e_shBR_shT_1 q6.2) e_shBR_shT_1 q9.2) e_shBR_shT_1 q11.2) e_shBR_shB_6 q14) e_shBR_shT_1)  q15 hq15) em_e_shBR_shT_1 (by decide) rfl kT_X8_passSemicolon kl_X1_83 kim_X8_passSemicolon kse_X8_passSemicolon rfl rfl (i := 1) rfl rfl ⟨by decide, by decide⟩ gk0 (Nat.le_of_ble_eq_true rfl) (gdec dt_X1_readRank 54 rfl) rfl (st2 := [.int q15.1]) (w2 := (gput (gput (gput (gput (gput (gput (gput w e_shBR_shT_1 q2) e_shBR_shT_1 q3.2) e_shBR_shT_1 q6.2) e_shBR_shT_1 q9.2) e_shBR_shT_1 q11.2) e_shBR_shB_6 q14) e_shBR_shT_1 q15.2)) rfl rfl ?_
            obtain ⟨hb16, hf⟩ := gif hf
            cases hf
            exact g_zret C hb16 rfl (gdec dt_X1_readRank 55 rfl)
          · have hf := (if_pos hc12).symm.trans hf
            refine g_iconst C (gdec dt_X1_readRank 43 rfl) ic_0 ?_
            cases hf
            exact g_zret C (Or.inl rfl) rfl (gdec dt_X1_readRank 44 rfl)
      · have hf := (if_pos hc7).symm.trans hf
        refine g_iconst C (gdec dt_X1_readRank 26 rfl) ic_0 ?_
        cases hf
        exact g_zret C (Or.inl rfl) rfl (gdec dt_X1_readRank 27 rfl)
  · have hf := (if_neg hc1).symm.trans hf
    refine g_aload_n C (gdec dt_X1_readRank 5 rfl) (i := 0) rfl rfl ?_
    refine g_getr C (j := 1) kf_X1_18 rfl rfl (gdec dt_X1_readRank 6 rfl) ?_
    refine g_bipush C (gdec dt_X1_readRank 7 rfl) bc_6 ?_
    obtain ⟨q17, hq17, hf⟩ := Option.bind_eq_some_iff.mp hf
    refine g_invVs e_shBR_shT_1 [.int (6 : Int32)] [] C (c_X8_fail l D cA _ (gInj_sub em_e_shBR_shT_1 (gCi C)) (gsub w e_shBR_shT_1) (6 : Int32) q17 hq17) em_e_shBR_shT_1 (by decide) rfl kT_X8_fail kl_X1_65 kim_X8_fail kse_X8_fail rfl rfl (i := 1) rfl rfl ⟨by decide, by decide⟩ gk0 (Nat.le_of_ble_eq_true rfl) (gdec dt_X1_readRank 8 rfl) rfl (st2 := [.int q17.1]) (w2 := (gput w e_shBR_shT_1 q17.2)) rfl rfl ?_
    obtain ⟨hb18, hf⟩ := gif hf
    cases hf
    exact g_zret C hb18 rfl (gdec dt_X1_readRank 9 rfl)
set_option maxHeartbeats 4000000 in
set_option maxRecDepth 100000 in
theorem c_X1_readTrait (l : Launch) (D : va_G) (cA ad : Nat → Nat) (hin : gInj ad shBR.length) (a3 : Nat) (ha3 : shBR[a3]? = some (0, [6])) (w : GW) (x1 : Int32) (x2 : Int32) (x4 : Int32) (q : (Int32 × GW)) (hf : F_X1_readTrait a3 x1 x2 x4 w = some q) : gMet l yX1_readTrait cX1_readTrait 5 (some .boolean) 3 163 D cA ad shBR [.ref 0, .int x1, .int x2, .ref a3, .int x4] w (some (.int q.1)) q.2 := by
  refine g_entry (by decide) hin (Nat.le_of_ble_eq_true rfl) ?_
  intro p e s m args below meth c C
  unfold F_X1_readTrait at hf
  show gW p l e (gRm 3 163) s m args below meth c D cA ad shBR 5 0 0 (gQ below D cA ad shBR (some (.int q.1)) q.2 args s) 0 [(0, .ref 0), (1, .int x1), (2, .int x2), (3, .ref a3), (4, .int x4)] [] w
  refine g_aload_n C (gdec dt_X1_readTrait 0 rfl) (i := 0) rfl rfl ?_
  refine g_getr C (j := 1) kf_X1_18 rfl rfl (gdec dt_X1_readTrait 1 rfl) ?_
  refine g_geti C kf_X1_41 rfl rfl (gdec dt_X1_readTrait 2 rfl) ?_
  refine g_iload_n C (gdec dt_X1_readTrait 3 rfl) (i := 1) rfl rfl ?_
  refine g_icmp_eq C (tgt := 13) (gdec dt_X1_readTrait 4 rfl) (by decide) (fun hc1 => ?_) (fun hc1 => ?_)
  · have hf := (if_pos hc1).symm.trans hf
    refine g_aload_n C (gdec dt_X1_readTrait 7 rfl) (i := 0) rfl rfl ?_
    refine g_getr C (j := 1) kf_X1_18 rfl rfl (gdec dt_X1_readTrait 8 rfl) ?_
    obtain ⟨q2, hq2, hf⟩ := Option.bind_eq_some_iff.mp hf
    refine g_invVs e_shBR_shT_1 [] [] C (c_X8_advance l D cA _ (gInj_sub em_e_shBR_shT_1 (gCi C)) (gsub w e_shBR_shT_1)  q2 hq2) em_e_shBR_shT_1 (by decide) rfl kT_X8_advance kl_X1_69 kim_X8_advance kse_X8_advance rfl rfl (i := 1) rfl rfl ⟨by decide, by decide⟩ gk0 (Nat.le_of_ble_eq_true rfl) (gdec dt_X1_readTrait 9 rfl) rfl (st2 := []) (w2 := (gput w e_shBR_shT_1 q2)) rfl rfl ?_
    refine g_aload_n C (gdec dt_X1_readTrait 10 rfl) (i := 0) rfl rfl ?_
    refine g_getr C (j := 1) kf_X1_18 rfl rfl (gdec dt_X1_readTrait 11 rfl) ?_
    refine g_iconst C (gdec dt_X1_readTrait 12 rfl) ic_0 ?_
    refine g_iload_n C (gdec dt_X1_readTrait 13 rfl) (i := 2) rfl rfl ?_
    obtain ⟨q3, hq3, hf⟩ := Option.bind_eq_some_iff.mp hf
    refine g_invVs e_shBR_shT_1 [.int (0 : Int32), .int x2] [] C (c_X8_passNumber l D cA _ (gInj_sub em_e_shBR_shT_1 (gCi C)) (gsub (gput w e_shBR_shT_1 q2) e_shBR_shT_1) (0 : Int32) x2 q3 hq3) em_e_shBR_shT_1 (by decide) rfl kT_X8_passNumber kl_X1_72 kim_X8_passNumber kse_X8_passNumber rfl rfl (i := 1) rfl rfl ⟨by decide, by decide⟩ gk0 (Nat.le_of_ble_eq_true rfl) (gdec dt_X1_readTrait 14 rfl) rfl (st2 := [.int q3.1]) (w2 := (gput (gput w e_shBR_shT_1 q2) e_shBR_shT_1 q3.2)) rfl rfl ?_
    refine g_if_ne C (tgt := 34) (gdec dt_X1_readTrait 15 rfl) (by decide) (fun hc4 => ?_) (fun hc4 => ?_)
    · have hf := (if_neg hc4).symm.trans hf
      refine g_iload C (gdec dt_X1_readTrait 18 rfl) rfl ?_
      refine g_if_lt C (tgt := 57) (gdec dt_X1_readTrait 19 rfl) (by decide) (fun hc5 => ?_) (fun hc5 => ?_)
      · have hf := (if_pos hc5).symm.trans hf
        refine g_iconst C (gdec dt_X1_readTrait 30 rfl) ic_1 ?_
        cases hf
        exact g_zret C (Or.inr rfl) rfl (gdec dt_X1_readTrait 31 rfl)
      · have hf := (if_neg hc5).symm.trans hf
        refine g_iload C (gdec dt_X1_readTrait 20 rfl) rfl ?_
        refine g_aload_n C (gdec dt_X1_readTrait 21 rfl) (i := 3) rfl rfl ?_
        refine g_alen C ha3 (by decide) (v := (6 : Int32)) rfl (gdec dt_X1_readTrait 22 rfl) ?_
        refine g_icmp_ge C (tgt := 57) (gdec dt_X1_readTrait 23 rfl) (by decide) (fun hc6 => ?_) (fun hc6 => ?_)
        · have hf := (if_pos hc6).symm.trans hf
          refine g_iconst C (gdec dt_X1_readTrait 30 rfl) ic_1 ?_
          cases hf
          exact g_zret C (Or.inr rfl) rfl (gdec dt_X1_readTrait 31 rfl)
        · have hf := (if_neg hc6).symm.trans hf
          refine g_aload_n C (gdec dt_X1_readTrait 24 rfl) (i := 3) rfl rfl ?_
          refine g_iload C (gdec dt_X1_readTrait 25 rfl) rfl ?_
          refine g_aload_n C (gdec dt_X1_readTrait 26 rfl) (i := 0) rfl rfl ?_
          refine g_getr C (j := 1) kf_X1_18 rfl rfl (gdec dt_X1_readTrait 27 rfl) ?_
          obtain ⟨q7, hq7, hf⟩ := Option.bind_eq_some_iff.mp hf
          refine g_invVs e_shBR_shT_1 [] [.int x4, .ref a3] C (c_X8_passedNumber l D cA _ (gInj_sub em_e_shBR_shT_1 (gCi C)) (gsub (gput (gput w e_shBR_shT_1 q2) e_shBR_shT_1 q3.2) e_shBR_shT_1)  q7 hq7) em_e_shBR_shT_1 (by decide) rfl kT_X8_passedNumber kl_X1_76 kim_X8_passedNumber kse_X8_passedNumber rfl rfl (i := 1) rfl rfl ⟨by decide, by decide⟩ gk0 (Nat.le_of_ble_eq_true rfl) (gdec dt_X1_readTrait 28 rfl) rfl (st2 := [.int q7, .int x4, .ref a3]) (w2 := (gput (gput w e_shBR_shT_1 q2) e_shBR_shT_1 q3.2)) rfl (gput_sub _ _) ?_
          obtain ⟨hg8, hf⟩ := gif hf
          refine g_iast C ha3 hg8 rfl (gdec dt_X1_readTrait 29 rfl) ?_
          refine g_iconst C (gdec dt_X1_readTrait 30 rfl) ic_1 ?_
          cases hf
          exact g_zret C (Or.inr rfl) rfl (gdec dt_X1_readTrait 31 rfl)
    · have hf := (if_pos hc4).symm.trans hf
      refine g_iconst C (gdec dt_X1_readTrait 16 rfl) ic_0 ?_
      cases hf
      exact g_zret C (Or.inl rfl) rfl (gdec dt_X1_readTrait 17 rfl)
  · have hf := (if_neg hc1).symm.trans hf
    refine g_iconst C (gdec dt_X1_readTrait 5 rfl) ic_1 ?_
    cases hf
    exact g_zret C (Or.inr rfl) rfl (gdec dt_X1_readTrait 6 rfl)
set_option maxHeartbeats 4000000 in
set_option maxRecDepth 100000 in
theorem c_X1_readClerk (l : Launch) (D : va_G) (cA ad : Nat → Nat) (hin : gInj ad shBR.length) (w : GW) (q : (Int32 × GW)) (hf : F_X1_readClerk w = some q) : gMet l yX1_readClerk cX1_readClerk 4 (some .boolean) 4 187 D cA ad shBR [.ref 0] w (some (.int q.1)) q.2 := by
  refine g_entry (by decide) hin (Nat.le_of_ble_eq_true rfl) ?_
  intro p e s m args below meth c C
  unfold F_X1_readClerk at hf
  show gW p l e (gRm 4 187) s m args below meth c D cA ad shBR 4 0 0 (gQ below D cA ad shBR (some (.int q.1)) q.2 args s) 0 [(0, .ref 0)] [] w
  refine g_aload_n C (gdec dt_X1_readClerk 0 rfl) (i := 0) rfl rfl ?_
  refine g_getr C (j := 6) kf_X1_22 rfl rfl (gdec dt_X1_readClerk 1 rfl) ?_
  refine g_geti C kf_X1_109 rfl rfl (gdec dt_X1_readClerk 2 rfl) ?_
  refine g_bipush C (gdec dt_X1_readClerk 3 rfl) bc_6 ?_
  refine g_icmp_lt C (tgt := 22) (gdec dt_X1_readClerk 4 rfl) (by decide) (fun hc1 => ?_) (fun hc1 => ?_)
  · have hf := (if_pos hc1).symm.trans hf
    refine g_aload_n C (gdec dt_X1_readClerk 10 rfl) (i := 0) rfl rfl ?_
    refine g_getr C (j := 1) kf_X1_18 rfl rfl (gdec dt_X1_readClerk 11 rfl) ?_
    obtain ⟨q2, hq2, hf⟩ := Option.bind_eq_some_iff.mp hf
    refine g_invVs e_shBR_shT_1 [] [] C (c_X8_advance l D cA _ (gInj_sub em_e_shBR_shT_1 (gCi C)) (gsub w e_shBR_shT_1)  q2 hq2) em_e_shBR_shT_1 (by decide) rfl kT_X8_advance kl_X1_69 kim_X8_advance kse_X8_advance rfl rfl (i := 1) rfl rfl ⟨by decide, by decide⟩ gk0 (Nat.le_of_ble_eq_true rfl) (gdec dt_X1_readClerk 12 rfl) rfl (st2 := []) (w2 := (gput w e_shBR_shT_1 q2)) rfl rfl ?_
    refine g_aload_n C (gdec dt_X1_readClerk 13 rfl) (i := 0) rfl rfl ?_
    refine g_getr C (j := 1) kf_X1_18 rfl rfl (gdec dt_X1_readClerk 14 rfl) ?_
    obtain ⟨q3, hq3, hf⟩ := Option.bind_eq_some_iff.mp hf
    refine g_invVs e_shBR_shT_1 [] [] C (c_X8_passName l D cA _ (gInj_sub em_e_shBR_shT_1 (gCi C)) (gsub (gput w e_shBR_shT_1 q2) e_shBR_shT_1)  q3 hq3) em_e_shBR_shT_1 (by decide) rfl kT_X8_passName kl_X1_112 kim_X8_passName kse_X8_passName rfl rfl (i := 1) rfl rfl ⟨by decide, by decide⟩ gk0 (Nat.le_of_ble_eq_true rfl) (gdec dt_X1_readClerk 15 rfl) rfl (st2 := [.int q3.1]) (w2 := (gput (gput w e_shBR_shT_1 q2) e_shBR_shT_1 q3.2)) rfl rfl ?_
    refine g_if_ne C (tgt := 41) (gdec dt_X1_readClerk 16 rfl) (by decide) (fun hc4 => ?_) (fun hc4 => ?_)
    · have hf := (if_neg hc4).symm.trans hf
      refine g_aload_n C (gdec dt_X1_readClerk 19 rfl) (i := 0) rfl rfl ?_
      refine g_getr C (j := 1) kf_X1_18 rfl rfl (gdec dt_X1_readClerk 20 rfl) ?_
      refine g_getlv C kf_X1_115 rfl rfl (gdec dt_X1_readClerk 21 rfl) (v := (q3.2.2 0 3)) rfl ?_
      refine g_lstore_n C (gdec dt_X1_readClerk 22 rfl) (i := 1) rfl (by decide) (lo2 := [(1, .long (q3.2.2 0 3)), (0, .ref 0)]) rfl ?_
      refine g_aload_n C (gdec dt_X1_readClerk 23 rfl) (i := 0) rfl rfl ?_
      refine g_getr C (j := 6) kf_X1_22 rfl rfl (gdec dt_X1_readClerk 24 rfl) ?_
      refine g_lload_n C (gdec dt_X1_readClerk 25 rfl) (i := 1) rfl rfl ?_
      obtain ⟨q5, hq5, hf⟩ := Option.bind_eq_some_iff.mp hf
      refine g_invVs e_shBR_shB_6 [.long (q3.2.2 0 3)] [] C (c_X0_clerkNamed l D cA _ (gInj_sub em_e_shBR_shB_6 (gCi C)) (gsub (gput (gput w e_shBR_shT_1 q2) e_shBR_shT_1 q3.2) e_shBR_shB_6) (q3.2.2 0 3) q5 hq5) em_e_shBR_shB_6 (by decide) rfl kT_X0_clerkNamed kl_X1_119 kim_X0_clerkNamed kse_X0_clerkNamed rfl rfl (i := 6) rfl rfl ⟨by decide, by decide⟩ gk0 (Nat.le_of_ble_eq_true rfl) (gdec dt_X1_readClerk 26 rfl) rfl (st2 := [.int q5]) (w2 := (gput (gput w e_shBR_shT_1 q2) e_shBR_shT_1 q3.2)) rfl (gput_sub _ _) ?_
      refine g_iconst C (gdec dt_X1_readClerk 27 rfl) ic_m1 ?_
      refine g_icmp_eq C (tgt := 70) (gdec dt_X1_readClerk 28 rfl) (by decide) (fun hc6 => ?_) (fun hc6 => ?_)
      · have hf := (if_pos hc6).symm.trans hf
        refine g_aload_n C (gdec dt_X1_readClerk 34 rfl) (i := 0) rfl rfl ?_
        refine g_getr C (j := 1) kf_X1_18 rfl rfl (gdec dt_X1_readClerk 35 rfl) ?_
        refine g_bipush C (gdec dt_X1_readClerk 36 rfl) bc_8 ?_
        obtain ⟨q7, hq7, hf⟩ := Option.bind_eq_some_iff.mp hf
        refine g_invVs e_shBR_shT_1 [.int (8 : Int32)] [] C (c_X8_passWord l D cA _ (gInj_sub em_e_shBR_shT_1 (gCi C)) (gsub (gput (gput w e_shBR_shT_1 q2) e_shBR_shT_1 q3.2) e_shBR_shT_1) (8 : Int32) q7 hq7) em_e_shBR_shT_1 (by decide) rfl kT_X8_passWord kl_X1_92 kim_X8_passWord kse_X8_passWord rfl rfl (i := 1) rfl rfl ⟨by decide, by decide⟩ gk0 (Nat.le_of_ble_eq_true rfl) (gdec dt_X1_readClerk 37 rfl) rfl (st2 := [.int q7.1]) (w2 := (gput (gput (gput w e_shBR_shT_1 q2) e_shBR_shT_1 q3.2) e_shBR_shT_1 q7.2)) rfl rfl ?_
        refine g_if_eq C (tgt := 102) (gdec dt_X1_readClerk 38 rfl) (by decide) (fun hc8 => ?_) (fun hc8 => ?_)
        · have hf := (if_pos hc8).symm.trans hf
          refine g_iconst C (gdec dt_X1_readClerk 49 rfl) ic_0 ?_
          cases hf
          exact g_zret C (Or.inl rfl) rfl (gdec dt_X1_readClerk 50 rfl)
        · have hf := (if_neg hc8).symm.trans hf
          refine g_aload_n C (gdec dt_X1_readClerk 39 rfl) (i := 0) rfl rfl ?_
          refine g_getr C (j := 1) kf_X1_18 rfl rfl (gdec dt_X1_readClerk 40 rfl) ?_
          refine g_iconst C (gdec dt_X1_readClerk 41 rfl) ic_0 ?_
          refine g_aload_n C (gdec dt_X1_readClerk 42 rfl) (i := 0) rfl rfl ?_
          refine g_getr C (j := 6) kf_X1_22 rfl rfl (gdec dt_X1_readClerk 43 rfl) ?_
          refine g_getiv C kf_X1_89 rfl rfl (gdec dt_X1_readClerk 44 rfl) (v := (w.1 6 3)) rfl ?_
          refine g_iconst C (gdec dt_X1_readClerk 45 rfl) ic_1 ?_
          refine g_isub C (gdec dt_X1_readClerk 46 rfl) ?_
          obtain ⟨q9, hq9, hf⟩ := Option.bind_eq_some_iff.mp hf
          refine g_invVs e_shBR_shT_1 [.int (0 : Int32), .int ((w.1 6 3) - (1 : Int32))] [] C (c_X8_passNumber l D cA _ (gInj_sub em_e_shBR_shT_1 (gCi C)) (gsub (gput (gput (gput w e_shBR_shT_1 q2) e_shBR_shT_1 q3.2) e_shBR_shT_1 q7.2) e_shBR_shT_1) (0 : Int32) ((w.1 6 3) - (1 : Int32)) q9 hq9) em_e_shBR_shT_1 (by decide) rfl kT_X8_passNumber kl_X1_72 kim_X8_passNumber kse_X8_passNumber rfl rfl (i := 1) rfl rfl ⟨by decide, by decide⟩ gk0 (Nat.le_of_ble_eq_true rfl) (gdec dt_X1_readClerk 47 rfl) rfl (st2 := [.int q9.1]) (w2 := (gput (gput (gput (gput w e_shBR_shT_1 q2) e_shBR_shT_1 q3.2) e_shBR_shT_1 q7.2) e_shBR_shT_1 q9.2)) rfl rfl ?_
          refine g_if_ne C (tgt := 104) (gdec dt_X1_readClerk 48 rfl) (by decide) (fun hc10 => ?_) (fun hc10 => ?_)
          · have hf := (if_neg hc10).symm.trans hf
            refine g_aload_n C (gdec dt_X1_readClerk 51 rfl) (i := 0) rfl rfl ?_
            refine g_getr C (j := 6) kf_X1_22 rfl rfl (gdec dt_X1_readClerk 52 rfl) ?_
            refine g_aload_n C (gdec dt_X1_readClerk 53 rfl) (i := 0) rfl rfl ?_
            refine g_getr C (j := 1) kf_X1_18 rfl rfl (gdec dt_X1_readClerk 54 rfl) ?_
            obtain ⟨q11, hq11, hf⟩ := Option.bind_eq_some_iff.mp hf
            refine g_invVs e_shBR_shT_1 [] [.ref 6] C (c_X8_passedNumber l D cA _ (gInj_sub em_e_shBR_shT_1 (gCi C)) (gsub (gput (gput (gput (gput w e_shBR_shT_1 q2) e_shBR_shT_1 q3.2) e_shBR_shT_1 q7.2) e_shBR_shT_1 q9.2) e_shBR_shT_1)  q11 hq11) em_e_shBR_shT_1 (by decide) rfl kT_X8_passedNumber kl_X1_76 kim_X8_passedNumber kse_X8_passedNumber rfl rfl (i := 1) rfl rfl ⟨by decide, by decide⟩ gk0 (Nat.le_of_ble_eq_true rfl) (gdec dt_X1_readClerk 55 rfl) rfl (st2 := [.int q11, .ref 6]) (w2 := (gput (gput (gput (gput w e_shBR_shT_1 q2) e_shBR_shT_1 q3.2) e_shBR_shT_1 q7.2) e_shBR_shT_1 q9.2)) rfl (gput_sub _ _) ?_
            obtain ⟨q12, hq12, hf⟩ := Option.bind_eq_some_iff.mp hf
            refine g_invVs e_shBR_shB_6 [.int q11] [] C (c_X0_sitterIn l D cA _ (gInj_sub em_e_shBR_shB_6 (gCi C)) (gsub (gput (gput (gput (gput w e_shBR_shT_1 q2) e_shBR_shT_1 q3.2) e_shBR_shT_1 q7.2) e_shBR_shT_1 q9.2) e_shBR_shB_6) q11 q12 hq12) em_e_shBR_shB_6 (by decide) rfl kT_X0_sitterIn kl_X1_126 kim_X0_sitterIn kse_X0_sitterIn rfl rfl (i := 6) rfl rfl ⟨by decide, by decide⟩ gk0 (Nat.le_of_ble_eq_true rfl) (gdec dt_X1_readClerk 56 rfl) rfl (st2 := [.int q12]) (w2 := (gput (gput (gput (gput w e_shBR_shT_1 q2) e_shBR_shT_1 q3.2) e_shBR_shT_1 q7.2) e_shBR_shT_1 q9.2)) rfl (gput_sub _ _) ?_
            refine g_iconst C (gdec dt_X1_readClerk 57 rfl) ic_m1 ?_
            refine g_icmp_eq C (tgt := 131) (gdec dt_X1_readClerk 58 rfl) (by decide) (fun hc13 => ?_) (fun hc13 => ?_)
            · have hf := (if_pos hc13).symm.trans hf
              refine g_aload_n C (gdec dt_X1_readClerk 64 rfl) (i := 0) rfl rfl ?_
              refine g_getr C (j := 6) kf_X1_22 rfl rfl (gdec dt_X1_readClerk 65 rfl) ?_
              refine g_lload_n C (gdec dt_X1_readClerk 66 rfl) (i := 1) rfl rfl ?_
              refine g_aload_n C (gdec dt_X1_readClerk 67 rfl) (i := 0) rfl rfl ?_
              refine g_getr C (j := 1) kf_X1_18 rfl rfl (gdec dt_X1_readClerk 68 rfl) ?_
              obtain ⟨q14, hq14, hf⟩ := Option.bind_eq_some_iff.mp hf
              refine g_invVs e_shBR_shT_1 [] [.long (q3.2.2 0 3), .ref 6] C (c_X8_passedNumber l D cA _ (gInj_sub em_e_shBR_shT_1 (gCi C)) (gsub (gput (gput (gput (gput w e_shBR_shT_1 q2) e_shBR_shT_1 q3.2) e_shBR_shT_1 q7.2) e_shBR_shT_1 q9.2) e_shBR_shT_1)  q14 hq14) em_e_shBR_shT_1 (by decide) rfl kT_X8_passedNumber kl_X1_76 kim_X8_passedNumber kse_X8_passedNumber rfl rfl (i := 1) rfl rfl ⟨by decide, by decide⟩ gk0 (Nat.le_of_ble_eq_true rfl) (gdec dt_X1_readClerk 69 rfl) rfl (st2 := [.int q14, .long (q3.2.2 0 3), .ref 6]) (w2 := (gput (gput (gput (gput w e_shBR_shT_1 q2) e_shBR_shT_1 q3.2) e_shBR_shT_1 q7.2) e_shBR_shT_1 q9.2)) rfl (gput_sub _ _) ?_
              obtain ⟨q15, hq15, hf⟩ := Option.bind_eq_some_iff.mp hf
              refine g_invVs e_shBR_shB_6 [.long (q3.2.2 0 3), .int q14] [] C (c_X0_addClerk l D cA _ (gInj_sub em_e_shBR_shB_6 (gCi C)) (gsub (gput (gput (gput (gput w e_shBR_shT_1 q2) e_shBR_shT_1 q3.2) e_shBR_shT_1 q7.2) e_shBR_shT_1 q9.2) e_shBR_shB_6) (q3.2.2 0 3) q14 q15 hq15) em_e_shBR_shB_6 (by decide) rfl kT_X0_addClerk kl_X1_130 kim_X0_addClerk kse_X0_addClerk rfl rfl (i := 6) rfl rfl ⟨by decide, by decide⟩ gk0 (Nat.le_of_ble_eq_true rfl) (gdec dt_X1_readClerk 70 rfl) rfl (st2 := [.int q15.1]) (w2 := (gput (gput (gput (gput (gput w e_shBR_shT_1 q2) e_shBR_shT_1 q3.2) e_shBR_shT_1 q7.2) e_shBR_shT_1 q9.2) e_shBR_shB_6 q15.2)) rfl rfl ?_
              refine g_istore_n C (gdec dt_X1_readClerk 71 rfl) (i := 3) rfl (by decide) (lo2 := [(3, .int q15.1), (1, .long (q3.2.2 0 3)), (0, .ref 0)]) rfl ?_
              refine g_aload_n C (gdec dt_X1_readClerk 72 rfl) (i := 0) rfl rfl ?_
              refine g_bipush C (gdec dt_X1_readClerk 73 rfl) bc_9 ?_
              refine g_sipush C (gdec dt_X1_readClerk 74 rfl) sc_999 ?_
              refine g_aload_n C (gdec dt_X1_readClerk 75 rfl) (i := 0) rfl rfl ?_
              refine g_getr C (j := 6) kf_X1_22 rfl rfl (gdec dt_X1_readClerk 76 rfl) ?_
              refine g_getr C (j := 12) kf_X1_134 rfl rfl (gdec dt_X1_readClerk 77 rfl) ?_
              refine g_iload_n C (gdec dt_X1_readClerk 78 rfl) (i := 3) rfl rfl ?_
              obtain ⟨q16, hq16, hf⟩ := Option.bind_eq_some_iff.mp hf
              refine g_invV [.int (9 : Int32), .int (999 : Int32), .ref 12, .int q15.1] [] C (c_X1_readTrait l D cA _ (gCi C) 12 rfl (gput (gput (gput (gput (gput w e_shBR_shT_1 q2) e_shBR_shT_1 q3.2) e_shBR_shT_1 q7.2) e_shBR_shT_1 q9.2) e_shBR_shB_6 q15.2) (9 : Int32) (999 : Int32) q15.1 q16 hq16) kT_X1_readTrait kl_X1_138 kim_X1_readTrait kse_X1_readTrait rfl rfl (i := 0) rfl rfl ⟨by decide, by decide⟩ gk0 (Nat.le_of_ble_eq_true rfl) (gdec dt_X1_readClerk 79 rfl) rfl (st2 := [.int q16.1]) rfl ?_
              refine g_if_eq C (tgt := 219) (gdec dt_X1_readClerk 80 rfl) (by decide) (fun hc17 => ?_) (fun hc17 => ?_)
              · have hf := (if_pos hc17).symm.trans hf
                refine g_iconst C (gdec dt_X1_readClerk 105 rfl) ic_0 ?_
                cases hf
                exact g_zret C (Or.inl rfl) rfl (gdec dt_X1_readClerk 106 rfl)
              · have hf := (if_neg hc17).symm.trans hf
                refine g_aload_n C (gdec dt_X1_readClerk 81 rfl) (i := 0) rfl rfl ?_
                refine g_bipush C (gdec dt_X1_readClerk 82 rfl) bc_10 ?_
                refine g_bipush C (gdec dt_X1_readClerk 83 rfl) bc_99 ?_
                refine g_aload_n C (gdec dt_X1_readClerk 84 rfl) (i := 0) rfl rfl ?_
                refine g_getr C (j := 6) kf_X1_22 rfl rfl (gdec dt_X1_readClerk 85 rfl) ?_
                refine g_getr C (j := 13) kf_X1_142 rfl rfl (gdec dt_X1_readClerk 86 rfl) ?_
                refine g_iload_n C (gdec dt_X1_readClerk 87 rfl) (i := 3) rfl rfl ?_
                obtain ⟨q18, hq18, hf⟩ := Option.bind_eq_some_iff.mp hf
                refine g_invV [.int (10 : Int32), .int (99 : Int32), .ref 13, .int q15.1] [] C (c_X1_readTrait l D cA _ (gCi C) 13 rfl q16.2 (10 : Int32) (99 : Int32) q15.1 q18 hq18) kT_X1_readTrait kl_X1_138 kim_X1_readTrait kse_X1_readTrait rfl rfl (i := 0) rfl rfl ⟨by decide, by decide⟩ gk0 (Nat.le_of_ble_eq_true rfl) (gdec dt_X1_readClerk 88 rfl) rfl (st2 := [.int q18.1]) rfl ?_
                refine g_if_eq C (tgt := 219) (gdec dt_X1_readClerk 89 rfl) (by decide) (fun hc19 => ?_) (fun hc19 => ?_)
                · have hf := (if_pos hc19).symm.trans hf
                  refine g_iconst C (gdec dt_X1_readClerk 105 rfl) ic_0 ?_
                  cases hf
                  exact g_zret C (Or.inl rfl) rfl (gdec dt_X1_readClerk 106 rfl)
                · have hf := (if_neg hc19).symm.trans hf
                  refine g_aload_n C (gdec dt_X1_readClerk 90 rfl) (i := 0) rfl rfl ?_
                  refine g_bipush C (gdec dt_X1_readClerk 91 rfl) bc_11 ?_
                  refine g_bipush C (gdec dt_X1_readClerk 92 rfl) bc_99 ?_
                  refine g_aload_n C (gdec dt_X1_readClerk 93 rfl) (i := 0) rfl rfl ?_
                  refine g_getr C (j := 6) kf_X1_22 rfl rfl (gdec dt_X1_readClerk 94 rfl) ?_
                  refine g_getr C (j := 14) kf_X1_145 rfl rfl (gdec dt_X1_readClerk 95 rfl) ?_
                  refine g_iload_n C (gdec dt_X1_readClerk 96 rfl) (i := 3) rfl rfl ?_
                  obtain ⟨q20, hq20, hf⟩ := Option.bind_eq_some_iff.mp hf
                  refine g_invV [.int (11 : Int32), .int (99 : Int32), .ref 14, .int q15.1] [] C (c_X1_readTrait l D cA _ (gCi C) 14 rfl q18.2 (11 : Int32) (99 : Int32) q15.1 q20 hq20) kT_X1_readTrait kl_X1_138 kim_X1_readTrait kse_X1_readTrait rfl rfl (i := 0) rfl rfl ⟨by decide, by decide⟩ gk0 (Nat.le_of_ble_eq_true rfl) (gdec dt_X1_readClerk 97 rfl) rfl (st2 := [.int q20.1]) rfl ?_
                  refine g_if_eq C (tgt := 219) (gdec dt_X1_readClerk 98 rfl) (by decide) (fun hc21 => ?_) (fun hc21 => ?_)
                  · have hf := (if_pos hc21).symm.trans hf
                    refine g_iconst C (gdec dt_X1_readClerk 105 rfl) ic_0 ?_
                    cases hf
                    exact g_zret C (Or.inl rfl) rfl (gdec dt_X1_readClerk 106 rfl)
                  · have hf := (if_neg hc21).symm.trans hf
                    refine g_aload_n C (gdec dt_X1_readClerk 99 rfl) (i := 0) rfl rfl ?_
                    refine g_getr C (j := 1) kf_X1_18 rfl rfl (gdec dt_X1_readClerk 100 rfl) ?_
                    obtain ⟨q22, hq22, hf⟩ := Option.bind_eq_some_iff.mp hf
                    refine g_invVs e_shBR_shT_1 [] [] C (c_X8_passSemicolon l D cA _ (gInj_sub em_e_shBR_shT_1 (gCi C)) (gsub q20.2 e_shBR_shT_1)  q22 hq22) em_e_shBR_shT_1 (by decide) rfl kT_X8_passSemicolon kl_X1_83 kim_X8_passSemicolon kse_X8_passSemicolon rfl rfl (i := 1) rfl rfl ⟨by decide, by decide⟩ gk0 (Nat.le_of_ble_eq_true rfl) (gdec dt_X1_readClerk 101 rfl) rfl (st2 := [.int q22.1]) (w2 := (gput q20.2 e_shBR_shT_1 q22.2)) rfl rfl ?_
                    refine g_if_eq C (tgt := 219) (gdec dt_X1_readClerk 102 rfl) (by decide) (fun hc23 => ?_) (fun hc23 => ?_)
                    · have hf := (if_pos hc23).symm.trans hf
                      refine g_iconst C (gdec dt_X1_readClerk 105 rfl) ic_0 ?_
                      cases hf
                      exact g_zret C (Or.inl rfl) rfl (gdec dt_X1_readClerk 106 rfl)
                    · have hf := (if_neg hc23).symm.trans hf
                      refine g_iconst C (gdec dt_X1_readClerk 103 rfl) ic_1 ?_
                      refine g_goto C (tgt := 220) (gdec dt_X1_readClerk 104 rfl) (by decide) ?_
                      cases hf
                      exact g_zret C (Or.inr rfl) rfl (gdec dt_X1_readClerk 106 rfl)
            · have hf := (if_neg hc13).symm.trans hf
              refine g_aload_n C (gdec dt_X1_readClerk 59 rfl) (i := 0) rfl rfl ?_
              refine g_getr C (j := 1) kf_X1_18 rfl rfl (gdec dt_X1_readClerk 60 rfl) ?_
              refine g_iconst C (gdec dt_X1_readClerk 61 rfl) ic_5 ?_
              obtain ⟨q24, hq24, hf⟩ := Option.bind_eq_some_iff.mp hf
              refine g_invVs e_shBR_shT_1 [.int (5 : Int32)] [] C (c_X8_failPassed l D cA _ (gInj_sub em_e_shBR_shT_1 (gCi C)) (gsub (gput (gput (gput (gput w e_shBR_shT_1 q2) e_shBR_shT_1 q3.2) e_shBR_shT_1 q7.2) e_shBR_shT_1 q9.2) e_shBR_shT_1) (5 : Int32) q24 hq24) em_e_shBR_shT_1 (by decide) rfl kT_X8_failPassed kl_X1_123 kim_X8_failPassed kse_X8_failPassed rfl rfl (i := 1) rfl rfl ⟨by decide, by decide⟩ gk0 (Nat.le_of_ble_eq_true rfl) (gdec dt_X1_readClerk 62 rfl) rfl (st2 := [.int q24.1]) (w2 := (gput (gput (gput (gput (gput w e_shBR_shT_1 q2) e_shBR_shT_1 q3.2) e_shBR_shT_1 q7.2) e_shBR_shT_1 q9.2) e_shBR_shT_1 q24.2)) rfl rfl ?_
              obtain ⟨hb25, hf⟩ := gif hf
              cases hf
              exact g_zret C hb25 rfl (gdec dt_X1_readClerk 63 rfl)
          · have hf := (if_pos hc10).symm.trans hf
            refine g_iconst C (gdec dt_X1_readClerk 49 rfl) ic_0 ?_
            cases hf
            exact g_zret C (Or.inl rfl) rfl (gdec dt_X1_readClerk 50 rfl)
      · have hf := (if_neg hc6).symm.trans hf
        refine g_aload_n C (gdec dt_X1_readClerk 29 rfl) (i := 0) rfl rfl ?_
        refine g_getr C (j := 1) kf_X1_18 rfl rfl (gdec dt_X1_readClerk 30 rfl) ?_
        refine g_iconst C (gdec dt_X1_readClerk 31 rfl) ic_3 ?_
        obtain ⟨q26, hq26, hf⟩ := Option.bind_eq_some_iff.mp hf
        refine g_invVs e_shBR_shT_1 [.int (3 : Int32)] [] C (c_X8_failPassed l D cA _ (gInj_sub em_e_shBR_shT_1 (gCi C)) (gsub (gput (gput w e_shBR_shT_1 q2) e_shBR_shT_1 q3.2) e_shBR_shT_1) (3 : Int32) q26 hq26) em_e_shBR_shT_1 (by decide) rfl kT_X8_failPassed kl_X1_123 kim_X8_failPassed kse_X8_failPassed rfl rfl (i := 1) rfl rfl ⟨by decide, by decide⟩ gk0 (Nat.le_of_ble_eq_true rfl) (gdec dt_X1_readClerk 32 rfl) rfl (st2 := [.int q26.1]) (w2 := (gput (gput (gput w e_shBR_shT_1 q2) e_shBR_shT_1 q3.2) e_shBR_shT_1 q26.2)) rfl rfl ?_
        obtain ⟨hb27, hf⟩ := gif hf
        cases hf
        exact g_zret C hb27 rfl (gdec dt_X1_readClerk 33 rfl)
    · have hf := (if_pos hc4).symm.trans hf
      refine g_iconst C (gdec dt_X1_readClerk 17 rfl) ic_0 ?_
      cases hf
      exact g_zret C (Or.inl rfl) rfl (gdec dt_X1_readClerk 18 rfl)
  · have hf := (if_neg hc1).symm.trans hf
    refine g_aload_n C (gdec dt_X1_readClerk 5 rfl) (i := 0) rfl rfl ?_
    refine g_getr C (j := 1) kf_X1_18 rfl rfl (gdec dt_X1_readClerk 6 rfl) ?_
    refine g_bipush C (gdec dt_X1_readClerk 7 rfl) bc_6 ?_
    obtain ⟨q28, hq28, hf⟩ := Option.bind_eq_some_iff.mp hf
    refine g_invVs e_shBR_shT_1 [.int (6 : Int32)] [] C (c_X8_fail l D cA _ (gInj_sub em_e_shBR_shT_1 (gCi C)) (gsub w e_shBR_shT_1) (6 : Int32) q28 hq28) em_e_shBR_shT_1 (by decide) rfl kT_X8_fail kl_X1_65 kim_X8_fail kse_X8_fail rfl rfl (i := 1) rfl rfl ⟨by decide, by decide⟩ gk0 (Nat.le_of_ble_eq_true rfl) (gdec dt_X1_readClerk 8 rfl) rfl (st2 := [.int q28.1]) (w2 := (gput w e_shBR_shT_1 q28.2)) rfl rfl ?_
    obtain ⟨hb29, hf⟩ := gif hf
    cases hf
    exact g_zret C hb29 rfl (gdec dt_X1_readClerk 9 rfl)
set_option maxHeartbeats 4000000 in
set_option maxRecDepth 100000 in
theorem c_X1_readClient (l : Launch) (D : va_G) (cA ad : Nat → Nat) (hin : gInj ad shBR.length) (w : GW) (q : (Int32 × GW)) (hf : F_X1_readClient w = some q) : gMet l yX1_readClient cX1_readClient 2 (some .boolean) 3 163 D cA ad shBR [.ref 0] w (some (.int q.1)) q.2 := by
  refine g_entry (by decide) hin (Nat.le_of_ble_eq_true rfl) ?_
  intro p e s m args below meth c C
  unfold F_X1_readClient at hf
  show gW p l e (gRm 3 163) s m args below meth c D cA ad shBR 2 0 0 (gQ below D cA ad shBR (some (.int q.1)) q.2 args s) 0 [(0, .ref 0)] [] w
  refine g_aload_n C (gdec dt_X1_readClient 0 rfl) (i := 0) rfl rfl ?_
  refine g_getr C (j := 6) kf_X1_22 rfl rfl (gdec dt_X1_readClient 1 rfl) ?_
  refine g_geti C kf_X1_148 rfl rfl (gdec dt_X1_readClient 2 rfl) ?_
  refine g_bipush C (gdec dt_X1_readClient 3 rfl) bc_8 ?_
  refine g_icmp_lt C (tgt := 22) (gdec dt_X1_readClient 4 rfl) (by decide) (fun hc1 => ?_) (fun hc1 => ?_)
  · have hf := (if_pos hc1).symm.trans hf
    refine g_aload_n C (gdec dt_X1_readClient 10 rfl) (i := 0) rfl rfl ?_
    refine g_getr C (j := 1) kf_X1_18 rfl rfl (gdec dt_X1_readClient 11 rfl) ?_
    obtain ⟨q2, hq2, hf⟩ := Option.bind_eq_some_iff.mp hf
    refine g_invVs e_shBR_shT_1 [] [] C (c_X8_advance l D cA _ (gInj_sub em_e_shBR_shT_1 (gCi C)) (gsub w e_shBR_shT_1)  q2 hq2) em_e_shBR_shT_1 (by decide) rfl kT_X8_advance kl_X1_69 kim_X8_advance kse_X8_advance rfl rfl (i := 1) rfl rfl ⟨by decide, by decide⟩ gk0 (Nat.le_of_ble_eq_true rfl) (gdec dt_X1_readClient 12 rfl) rfl (st2 := []) (w2 := (gput w e_shBR_shT_1 q2)) rfl rfl ?_
    refine g_aload_n C (gdec dt_X1_readClient 13 rfl) (i := 0) rfl rfl ?_
    refine g_getr C (j := 1) kf_X1_18 rfl rfl (gdec dt_X1_readClient 14 rfl) ?_
    refine g_bipush C (gdec dt_X1_readClient 15 rfl) bc_13 ?_
    obtain ⟨q3, hq3, hf⟩ := Option.bind_eq_some_iff.mp hf
    refine g_invVs e_shBR_shT_1 [.int (13 : Int32)] [] C (c_X8_passWord l D cA _ (gInj_sub em_e_shBR_shT_1 (gCi C)) (gsub (gput w e_shBR_shT_1 q2) e_shBR_shT_1) (13 : Int32) q3 hq3) em_e_shBR_shT_1 (by decide) rfl kT_X8_passWord kl_X1_92 kim_X8_passWord kse_X8_passWord rfl rfl (i := 1) rfl rfl ⟨by decide, by decide⟩ gk0 (Nat.le_of_ble_eq_true rfl) (gdec dt_X1_readClient 16 rfl) rfl (st2 := [.int q3.1]) (w2 := (gput (gput w e_shBR_shT_1 q2) e_shBR_shT_1 q3.2)) rfl rfl ?_
    refine g_if_eq C (tgt := 54) (gdec dt_X1_readClient 17 rfl) (by decide) (fun hc4 => ?_) (fun hc4 => ?_)
    · have hf := (if_pos hc4).symm.trans hf
      refine g_iconst C (gdec dt_X1_readClient 24 rfl) ic_0 ?_
      cases hf
      exact g_zret C (Or.inl rfl) rfl (gdec dt_X1_readClient 25 rfl)
    · have hf := (if_neg hc4).symm.trans hf
      refine g_aload_n C (gdec dt_X1_readClient 18 rfl) (i := 0) rfl rfl ?_
      refine g_getr C (j := 1) kf_X1_18 rfl rfl (gdec dt_X1_readClient 19 rfl) ?_
      refine g_iconst C (gdec dt_X1_readClient 20 rfl) ic_1 ?_
      refine g_bipush C (gdec dt_X1_readClient 21 rfl) bc_99 ?_
      obtain ⟨q5, hq5, hf⟩ := Option.bind_eq_some_iff.mp hf
      refine g_invVs e_shBR_shT_1 [.int (1 : Int32), .int (99 : Int32)] [] C (c_X8_passNumber l D cA _ (gInj_sub em_e_shBR_shT_1 (gCi C)) (gsub (gput (gput w e_shBR_shT_1 q2) e_shBR_shT_1 q3.2) e_shBR_shT_1) (1 : Int32) (99 : Int32) q5 hq5) em_e_shBR_shT_1 (by decide) rfl kT_X8_passNumber kl_X1_72 kim_X8_passNumber kse_X8_passNumber rfl rfl (i := 1) rfl rfl ⟨by decide, by decide⟩ gk0 (Nat.le_of_ble_eq_true rfl) (gdec dt_X1_readClient 22 rfl) rfl (st2 := [.int q5.1]) (w2 := (gput (gput (gput w e_shBR_shT_1 q2) e_shBR_shT_1 q3.2) e_shBR_shT_1 q5.2)) rfl rfl ?_
      refine g_if_ne C (tgt := 56) (gdec dt_X1_readClient 23 rfl) (by decide) (fun hc6 => ?_) (fun hc6 => ?_)
      · have hf := (if_neg hc6).symm.trans hf
        refine g_aload_n C (gdec dt_X1_readClient 26 rfl) (i := 0) rfl rfl ?_
        refine g_getr C (j := 1) kf_X1_18 rfl rfl (gdec dt_X1_readClient 27 rfl) ?_
        obtain ⟨q7, hq7, hf⟩ := Option.bind_eq_some_iff.mp hf
        refine g_invVs e_shBR_shT_1 [] [] C (c_X8_passedNumber l D cA _ (gInj_sub em_e_shBR_shT_1 (gCi C)) (gsub (gput (gput (gput w e_shBR_shT_1 q2) e_shBR_shT_1 q3.2) e_shBR_shT_1 q5.2) e_shBR_shT_1)  q7 hq7) em_e_shBR_shT_1 (by decide) rfl kT_X8_passedNumber kl_X1_76 kim_X8_passedNumber kse_X8_passedNumber rfl rfl (i := 1) rfl rfl ⟨by decide, by decide⟩ gk0 (Nat.le_of_ble_eq_true rfl) (gdec dt_X1_readClient 28 rfl) rfl (st2 := [.int q7]) (w2 := (gput (gput (gput w e_shBR_shT_1 q2) e_shBR_shT_1 q3.2) e_shBR_shT_1 q5.2)) rfl (gput_sub _ _) ?_
        refine g_istore_n C (gdec dt_X1_readClient 29 rfl) (i := 1) rfl (by decide) (lo2 := [(1, .int q7), (0, .ref 0)]) rfl ?_
        refine g_aload_n C (gdec dt_X1_readClient 30 rfl) (i := 0) rfl rfl ?_
        refine g_getr C (j := 1) kf_X1_18 rfl rfl (gdec dt_X1_readClient 31 rfl) ?_
        refine g_bipush C (gdec dt_X1_readClient 32 rfl) bc_14 ?_
        obtain ⟨q8, hq8, hf⟩ := Option.bind_eq_some_iff.mp hf
        refine g_invVs e_shBR_shT_1 [.int (14 : Int32)] [] C (c_X8_passWord l D cA _ (gInj_sub em_e_shBR_shT_1 (gCi C)) (gsub (gput (gput (gput w e_shBR_shT_1 q2) e_shBR_shT_1 q3.2) e_shBR_shT_1 q5.2) e_shBR_shT_1) (14 : Int32) q8 hq8) em_e_shBR_shT_1 (by decide) rfl kT_X8_passWord kl_X1_92 kim_X8_passWord kse_X8_passWord rfl rfl (i := 1) rfl rfl ⟨by decide, by decide⟩ gk0 (Nat.le_of_ble_eq_true rfl) (gdec dt_X1_readClient 33 rfl) rfl (st2 := [.int q8.1]) (w2 := (gput (gput (gput (gput w e_shBR_shT_1 q2) e_shBR_shT_1 q3.2) e_shBR_shT_1 q5.2) e_shBR_shT_1 q8.2)) rfl rfl ?_
        refine g_if_eq C (tgt := 90) (gdec dt_X1_readClient 34 rfl) (by decide) (fun hc9 => ?_) (fun hc9 => ?_)
        · have hf := (if_pos hc9).symm.trans hf
          refine g_iconst C (gdec dt_X1_readClient 41 rfl) ic_0 ?_
          cases hf
          exact g_zret C (Or.inl rfl) rfl (gdec dt_X1_readClient 42 rfl)
        · have hf := (if_neg hc9).symm.trans hf
          refine g_aload_n C (gdec dt_X1_readClient 35 rfl) (i := 0) rfl rfl ?_
          refine g_getr C (j := 1) kf_X1_18 rfl rfl (gdec dt_X1_readClient 36 rfl) ?_
          refine g_iconst C (gdec dt_X1_readClient 37 rfl) ic_0 ?_
          refine g_sipush C (gdec dt_X1_readClient 38 rfl) sc_999 ?_
          obtain ⟨q10, hq10, hf⟩ := Option.bind_eq_some_iff.mp hf
          refine g_invVs e_shBR_shT_1 [.int (0 : Int32), .int (999 : Int32)] [] C (c_X8_passNumber l D cA _ (gInj_sub em_e_shBR_shT_1 (gCi C)) (gsub (gput (gput (gput (gput w e_shBR_shT_1 q2) e_shBR_shT_1 q3.2) e_shBR_shT_1 q5.2) e_shBR_shT_1 q8.2) e_shBR_shT_1) (0 : Int32) (999 : Int32) q10 hq10) em_e_shBR_shT_1 (by decide) rfl kT_X8_passNumber kl_X1_72 kim_X8_passNumber kse_X8_passNumber rfl rfl (i := 1) rfl rfl ⟨by decide, by decide⟩ gk0 (Nat.le_of_ble_eq_true rfl) (gdec dt_X1_readClient 39 rfl) rfl (st2 := [.int q10.1]) (w2 := (gput (gput (gput (gput (gput w e_shBR_shT_1 q2) e_shBR_shT_1 q3.2) e_shBR_shT_1 q5.2) e_shBR_shT_1 q8.2) e_shBR_shT_1 q10.2)) rfl rfl ?_
          refine g_if_ne C (tgt := 92) (gdec dt_X1_readClient 40 rfl) (by decide) (fun hc11 => ?_) (fun hc11 => ?_)
          · have hf := (if_neg hc11).symm.trans hf
            refine g_aload_n C (gdec dt_X1_readClient 43 rfl) (i := 0) rfl rfl ?_
            refine g_getr C (j := 6) kf_X1_22 rfl rfl (gdec dt_X1_readClient 44 rfl) ?_
            refine g_iload_n C (gdec dt_X1_readClient 45 rfl) (i := 1) rfl rfl ?_
            refine g_aload_n C (gdec dt_X1_readClient 46 rfl) (i := 0) rfl rfl ?_
            refine g_getr C (j := 1) kf_X1_18 rfl rfl (gdec dt_X1_readClient 47 rfl) ?_
            obtain ⟨q12, hq12, hf⟩ := Option.bind_eq_some_iff.mp hf
            refine g_invVs e_shBR_shT_1 [] [.int q7, .ref 6] C (c_X8_passedNumber l D cA _ (gInj_sub em_e_shBR_shT_1 (gCi C)) (gsub (gput (gput (gput (gput (gput w e_shBR_shT_1 q2) e_shBR_shT_1 q3.2) e_shBR_shT_1 q5.2) e_shBR_shT_1 q8.2) e_shBR_shT_1 q10.2) e_shBR_shT_1)  q12 hq12) em_e_shBR_shT_1 (by decide) rfl kT_X8_passedNumber kl_X1_76 kim_X8_passedNumber kse_X8_passedNumber rfl rfl (i := 1) rfl rfl ⟨by decide, by decide⟩ gk0 (Nat.le_of_ble_eq_true rfl) (gdec dt_X1_readClient 48 rfl) rfl (st2 := [.int q12, .int q7, .ref 6]) (w2 := (gput (gput (gput (gput (gput w e_shBR_shT_1 q2) e_shBR_shT_1 q3.2) e_shBR_shT_1 q5.2) e_shBR_shT_1 q8.2) e_shBR_shT_1 q10.2)) rfl (gput_sub _ _) ?_
            obtain ⟨q13, hq13, hf⟩ := Option.bind_eq_some_iff.mp hf
            refine g_invVs e_shBR_shB_6 [.int q7, .int q12] [] C (c_X0_addClient l D cA _ (gInj_sub em_e_shBR_shB_6 (gCi C)) (gsub (gput (gput (gput (gput (gput w e_shBR_shT_1 q2) e_shBR_shT_1 q3.2) e_shBR_shT_1 q5.2) e_shBR_shT_1 q8.2) e_shBR_shT_1 q10.2) e_shBR_shB_6) q7 q12 q13 hq13) em_e_shBR_shB_6 (by decide) rfl kT_X0_addClient kl_X1_151 kim_X0_addClient kse_X0_addClient rfl rfl (i := 6) rfl rfl ⟨by decide, by decide⟩ gk0 (Nat.le_of_ble_eq_true rfl) (gdec dt_X1_readClient 49 rfl) rfl (st2 := [.int q13.1]) (w2 := (gput (gput (gput (gput (gput (gput w e_shBR_shT_1 q2) e_shBR_shT_1 q3.2) e_shBR_shT_1 q5.2) e_shBR_shT_1 q8.2) e_shBR_shT_1 q10.2) e_shBR_shB_6 q13.2)) rfl rfl ?_
            refine g_pop C (gdec dt_X1_readClient 50 rfl) rfl ?_
            refine g_aload_n C (gdec dt_X1_readClient 51 rfl) (i := 0) rfl rfl ?_
            refine g_getr C (j := 1) kf_X1_18 rfl rfl (gdec dt_X1_readClient 52 rfl) ?_
            obtain ⟨q14, hq14, hf⟩ := Option.bind_eq_some_iff.mp hf
            refine g_invVs e_shBR_shT_1 [] [] C (c_X8_passSemicolon l D cA _ (gInj_sub em_e_shBR_shT_1 (gCi C)) (gsub (gput (gput (gput (gput (gput (gput w e_shBR_shT_1 q2) e_shBR_shT_1 q3.2) e_shBR_shT_1 q5.2) e_shBR_shT_1 q8.2) e_shBR_shT_1 q10.2) e_shBR_shB_6 q13.2) e_shBR_shT_1)  q14 hq14) em_e_shBR_shT_1 (by decide) rfl kT_X8_passSemicolon kl_X1_83 kim_X8_passSemicolon kse_X8_passSemicolon rfl rfl (i := 1) rfl rfl ⟨by decide, by decide⟩ gk0 (Nat.le_of_ble_eq_true rfl) (gdec dt_X1_readClient 53 rfl) rfl (st2 := [.int q14.1]) (w2 := (gput (gput (gput (gput (gput (gput (gput w e_shBR_shT_1 q2) e_shBR_shT_1 q3.2) e_shBR_shT_1 q5.2) e_shBR_shT_1 q8.2) e_shBR_shT_1 q10.2) e_shBR_shB_6 q13.2) e_shBR_shT_1 q14.2)) rfl rfl ?_
            obtain ⟨hb15, hf⟩ := gif hf
            cases hf
            exact g_zret C hb15 rfl (gdec dt_X1_readClient 54 rfl)
          · have hf := (if_pos hc11).symm.trans hf
            refine g_iconst C (gdec dt_X1_readClient 41 rfl) ic_0 ?_
            cases hf
            exact g_zret C (Or.inl rfl) rfl (gdec dt_X1_readClient 42 rfl)
      · have hf := (if_pos hc6).symm.trans hf
        refine g_iconst C (gdec dt_X1_readClient 24 rfl) ic_0 ?_
        cases hf
        exact g_zret C (Or.inl rfl) rfl (gdec dt_X1_readClient 25 rfl)
  · have hf := (if_neg hc1).symm.trans hf
    refine g_aload_n C (gdec dt_X1_readClient 5 rfl) (i := 0) rfl rfl ?_
    refine g_getr C (j := 1) kf_X1_18 rfl rfl (gdec dt_X1_readClient 6 rfl) ?_
    refine g_bipush C (gdec dt_X1_readClient 7 rfl) bc_6 ?_
    obtain ⟨q16, hq16, hf⟩ := Option.bind_eq_some_iff.mp hf
    refine g_invVs e_shBR_shT_1 [.int (6 : Int32)] [] C (c_X8_fail l D cA _ (gInj_sub em_e_shBR_shT_1 (gCi C)) (gsub w e_shBR_shT_1) (6 : Int32) q16 hq16) em_e_shBR_shT_1 (by decide) rfl kT_X8_fail kl_X1_65 kim_X8_fail kse_X8_fail rfl rfl (i := 1) rfl rfl ⟨by decide, by decide⟩ gk0 (Nat.le_of_ble_eq_true rfl) (gdec dt_X1_readClient 8 rfl) rfl (st2 := [.int q16.1]) (w2 := (gput w e_shBR_shT_1 q16.2)) rfl rfl ?_
    obtain ⟨hb17, hf⟩ := gif hf
    cases hf
    exact g_zret C hb17 rfl (gdec dt_X1_readClient 9 rfl)
set_option maxHeartbeats 4000000 in
set_option maxRecDepth 100000 in
theorem c_X1_readPart (l : Launch) (D : va_G) (cA ad : Nat → Nat) (hin : gInj ad shBR.length) (w : GW) (q : (Int32 × GW)) (hf : F_X1_readPart w = some q) : gMet l yX1_readPart cX1_readPart 1 (some .boolean) 5 210 D cA ad shBR [.ref 0] w (some (.int q.1)) q.2 := by
  refine g_entry (by decide) hin (Nat.le_of_ble_eq_true rfl) ?_
  intro p e s m args below meth c C
  unfold F_X1_readPart at hf
  show gW p l e (gRm 5 210) s m args below meth c D cA ad shBR 1 0 0 (gQ below D cA ad shBR (some (.int q.1)) q.2 args s) 0 [(0, .ref 0)] [] w
  refine g_aload_n C (gdec dt_X1_readPart 0 rfl) (i := 0) rfl rfl ?_
  refine g_getr C (j := 1) kf_X1_18 rfl rfl (gdec dt_X1_readPart 1 rfl) ?_
  refine g_geti C kf_X1_41 rfl rfl (gdec dt_X1_readPart 2 rfl) ?_
  by_cases hc1 : (w.1 1 2) = (0 : Int32)
  · have hf := (if_pos hc1).symm.trans hf
    refine g_tableIn C (tgt := 72) (off := 65) (gdec dt_X1_readPart 3 rfl) (by rw [hc1]; decide) (by rw [hc1]; decide) (by rw [hc1]; decide) (by decide) ?_
    refine g_aload_n C (gdec dt_X1_readPart 4 rfl) (i := 0) rfl rfl ?_
    obtain ⟨q2, hq2, hf⟩ := Option.bind_eq_some_iff.mp hf
    refine g_invV [] [] C (c_X1_readOdds l D cA _ (gCi C) w  q2 hq2) kT_X1_readOdds kl_X1_44 kim_X1_readOdds kse_X1_readOdds rfl rfl (i := 0) rfl rfl ⟨by decide, by decide⟩ gk0 (Nat.le_of_ble_eq_true rfl) (gdec dt_X1_readPart 5 rfl) rfl (st2 := [.int q2.1]) rfl ?_
    obtain ⟨hb3, hf⟩ := gif hf
    cases hf
    exact g_zret C hb3 rfl (gdec dt_X1_readPart 6 rfl)
  replace hf := (if_neg hc1).symm.trans hf
  by_cases hc4 : (w.1 1 2) = (1 : Int32)
  · have hf := (if_pos hc4).symm.trans hf
    refine g_tableIn C (tgt := 77) (off := 70) (gdec dt_X1_readPart 3 rfl) (by rw [hc4]; decide) (by rw [hc4]; decide) (by rw [hc4]; decide) (by decide) ?_
    refine g_aload_n C (gdec dt_X1_readPart 7 rfl) (i := 0) rfl rfl ?_
    obtain ⟨q5, hq5, hf⟩ := Option.bind_eq_some_iff.mp hf
    refine g_invV [] [] C (c_X1_readCash l D cA _ (gCi C) w  q5 hq5) kT_X1_readCash kl_X1_47 kim_X1_readCash kse_X1_readCash rfl rfl (i := 0) rfl rfl ⟨by decide, by decide⟩ gk0 (Nat.le_of_ble_eq_true rfl) (gdec dt_X1_readPart 8 rfl) rfl (st2 := [.int q5.1]) rfl ?_
    obtain ⟨hb6, hf⟩ := gif hf
    cases hf
    exact g_zret C hb6 rfl (gdec dt_X1_readPart 9 rfl)
  replace hf := (if_neg hc4).symm.trans hf
  by_cases hc7 : (w.1 1 2) = (2 : Int32)
  · have hf := (if_pos hc7).symm.trans hf
    refine g_tableIn C (tgt := 82) (off := 75) (gdec dt_X1_readPart 3 rfl) (by rw [hc7]; decide) (by rw [hc7]; decide) (by rw [hc7]; decide) (by decide) ?_
    refine g_aload_n C (gdec dt_X1_readPart 10 rfl) (i := 0) rfl rfl ?_
    obtain ⟨q8, hq8, hf⟩ := Option.bind_eq_some_iff.mp hf
    refine g_invV [] [] C (c_X1_readCorner l D cA _ (gCi C) w  q8 hq8) kT_X1_readCorner kl_X1_50 kim_X1_readCorner kse_X1_readCorner rfl rfl (i := 0) rfl rfl ⟨by decide, by decide⟩ gk0 (Nat.le_of_ble_eq_true rfl) (gdec dt_X1_readPart 11 rfl) rfl (st2 := [.int q8.1]) rfl ?_
    obtain ⟨hb9, hf⟩ := gif hf
    cases hf
    exact g_zret C hb9 rfl (gdec dt_X1_readPart 12 rfl)
  replace hf := (if_neg hc7).symm.trans hf
  by_cases hc10 : (w.1 1 2) = (3 : Int32)
  · have hf := (if_pos hc10).symm.trans hf
    refine g_tableIn C (tgt := 102) (off := 95) (gdec dt_X1_readPart 3 rfl) (by rw [hc10]; decide) (by rw [hc10]; decide) (by rw [hc10]; decide) (by decide) ?_
    refine g_aload_n C (gdec dt_X1_readPart 22 rfl) (i := 0) rfl rfl ?_
    refine g_getr C (j := 1) kf_X1_18 rfl rfl (gdec dt_X1_readPart 23 rfl) ?_
    obtain ⟨q11, hq11, hf⟩ := Option.bind_eq_some_iff.mp hf
    refine g_invVs e_shBR_shT_1 [] [] C (c_X8_failHere l D cA _ (gInj_sub em_e_shBR_shT_1 (gCi C)) (gsub w e_shBR_shT_1)  q11 hq11) em_e_shBR_shT_1 (by decide) rfl kT_X8_failHere kl_X1_62 kim_X8_failHere kse_X8_failHere rfl rfl (i := 1) rfl rfl ⟨by decide, by decide⟩ gk0 (Nat.le_of_ble_eq_true rfl) (gdec dt_X1_readPart 24 rfl) rfl (st2 := [.int q11.1]) (w2 := (gput w e_shBR_shT_1 q11.2)) rfl rfl ?_
    obtain ⟨hb12, hf⟩ := gif hf
    cases hf
    exact g_zret C hb12 rfl (gdec dt_X1_readPart 25 rfl)
  replace hf := (if_neg hc10).symm.trans hf
  by_cases hc13 : (w.1 1 2) = (4 : Int32)
  · have hf := (if_pos hc13).symm.trans hf
    refine g_tableIn C (tgt := 87) (off := 80) (gdec dt_X1_readPart 3 rfl) (by rw [hc13]; decide) (by rw [hc13]; decide) (by rw [hc13]; decide) (by decide) ?_
    refine g_aload_n C (gdec dt_X1_readPart 13 rfl) (i := 0) rfl rfl ?_
    obtain ⟨q14, hq14, hf⟩ := Option.bind_eq_some_iff.mp hf
    refine g_invV [] [] C (c_X1_readRank l D cA _ (gCi C) w  q14 hq14) kT_X1_readRank kl_X1_53 kim_X1_readRank kse_X1_readRank rfl rfl (i := 0) rfl rfl ⟨by decide, by decide⟩ gk0 (Nat.le_of_ble_eq_true rfl) (gdec dt_X1_readPart 14 rfl) rfl (st2 := [.int q14.1]) rfl ?_
    obtain ⟨hb15, hf⟩ := gif hf
    cases hf
    exact g_zret C hb15 rfl (gdec dt_X1_readPart 15 rfl)
  replace hf := (if_neg hc13).symm.trans hf
  by_cases hc16 : (w.1 1 2) = (5 : Int32)
  · have hf := (if_pos hc16).symm.trans hf
    refine g_tableIn C (tgt := 102) (off := 95) (gdec dt_X1_readPart 3 rfl) (by rw [hc16]; decide) (by rw [hc16]; decide) (by rw [hc16]; decide) (by decide) ?_
    refine g_aload_n C (gdec dt_X1_readPart 22 rfl) (i := 0) rfl rfl ?_
    refine g_getr C (j := 1) kf_X1_18 rfl rfl (gdec dt_X1_readPart 23 rfl) ?_
    obtain ⟨q17, hq17, hf⟩ := Option.bind_eq_some_iff.mp hf
    refine g_invVs e_shBR_shT_1 [] [] C (c_X8_failHere l D cA _ (gInj_sub em_e_shBR_shT_1 (gCi C)) (gsub w e_shBR_shT_1)  q17 hq17) em_e_shBR_shT_1 (by decide) rfl kT_X8_failHere kl_X1_62 kim_X8_failHere kse_X8_failHere rfl rfl (i := 1) rfl rfl ⟨by decide, by decide⟩ gk0 (Nat.le_of_ble_eq_true rfl) (gdec dt_X1_readPart 24 rfl) rfl (st2 := [.int q17.1]) (w2 := (gput w e_shBR_shT_1 q17.2)) rfl rfl ?_
    obtain ⟨hb18, hf⟩ := gif hf
    cases hf
    exact g_zret C hb18 rfl (gdec dt_X1_readPart 25 rfl)
  replace hf := (if_neg hc16).symm.trans hf
  by_cases hc19 : (w.1 1 2) = (6 : Int32)
  · have hf := (if_pos hc19).symm.trans hf
    refine g_tableIn C (tgt := 102) (off := 95) (gdec dt_X1_readPart 3 rfl) (by rw [hc19]; decide) (by rw [hc19]; decide) (by rw [hc19]; decide) (by decide) ?_
    refine g_aload_n C (gdec dt_X1_readPart 22 rfl) (i := 0) rfl rfl ?_
    refine g_getr C (j := 1) kf_X1_18 rfl rfl (gdec dt_X1_readPart 23 rfl) ?_
    obtain ⟨q20, hq20, hf⟩ := Option.bind_eq_some_iff.mp hf
    refine g_invVs e_shBR_shT_1 [] [] C (c_X8_failHere l D cA _ (gInj_sub em_e_shBR_shT_1 (gCi C)) (gsub w e_shBR_shT_1)  q20 hq20) em_e_shBR_shT_1 (by decide) rfl kT_X8_failHere kl_X1_62 kim_X8_failHere kse_X8_failHere rfl rfl (i := 1) rfl rfl ⟨by decide, by decide⟩ gk0 (Nat.le_of_ble_eq_true rfl) (gdec dt_X1_readPart 24 rfl) rfl (st2 := [.int q20.1]) (w2 := (gput w e_shBR_shT_1 q20.2)) rfl rfl ?_
    obtain ⟨hb21, hf⟩ := gif hf
    cases hf
    exact g_zret C hb21 rfl (gdec dt_X1_readPart 25 rfl)
  replace hf := (if_neg hc19).symm.trans hf
  by_cases hc22 : (w.1 1 2) = (7 : Int32)
  · have hf := (if_pos hc22).symm.trans hf
    refine g_tableIn C (tgt := 92) (off := 85) (gdec dt_X1_readPart 3 rfl) (by rw [hc22]; decide) (by rw [hc22]; decide) (by rw [hc22]; decide) (by decide) ?_
    refine g_aload_n C (gdec dt_X1_readPart 16 rfl) (i := 0) rfl rfl ?_
    obtain ⟨q23, hq23, hf⟩ := Option.bind_eq_some_iff.mp hf
    refine g_invV [] [] C (c_X1_readClerk l D cA _ (gCi C) w  q23 hq23) kT_X1_readClerk kl_X1_56 kim_X1_readClerk kse_X1_readClerk rfl rfl (i := 0) rfl rfl ⟨by decide, by decide⟩ gk0 (Nat.le_of_ble_eq_true rfl) (gdec dt_X1_readPart 17 rfl) rfl (st2 := [.int q23.1]) rfl ?_
    obtain ⟨hb24, hf⟩ := gif hf
    cases hf
    exact g_zret C hb24 rfl (gdec dt_X1_readPart 18 rfl)
  replace hf := (if_neg hc22).symm.trans hf
  by_cases hc25 : (w.1 1 2) = (8 : Int32)
  · have hf := (if_pos hc25).symm.trans hf
    refine g_tableIn C (tgt := 102) (off := 95) (gdec dt_X1_readPart 3 rfl) (by rw [hc25]; decide) (by rw [hc25]; decide) (by rw [hc25]; decide) (by decide) ?_
    refine g_aload_n C (gdec dt_X1_readPart 22 rfl) (i := 0) rfl rfl ?_
    refine g_getr C (j := 1) kf_X1_18 rfl rfl (gdec dt_X1_readPart 23 rfl) ?_
    obtain ⟨q26, hq26, hf⟩ := Option.bind_eq_some_iff.mp hf
    refine g_invVs e_shBR_shT_1 [] [] C (c_X8_failHere l D cA _ (gInj_sub em_e_shBR_shT_1 (gCi C)) (gsub w e_shBR_shT_1)  q26 hq26) em_e_shBR_shT_1 (by decide) rfl kT_X8_failHere kl_X1_62 kim_X8_failHere kse_X8_failHere rfl rfl (i := 1) rfl rfl ⟨by decide, by decide⟩ gk0 (Nat.le_of_ble_eq_true rfl) (gdec dt_X1_readPart 24 rfl) rfl (st2 := [.int q26.1]) (w2 := (gput w e_shBR_shT_1 q26.2)) rfl rfl ?_
    obtain ⟨hb27, hf⟩ := gif hf
    cases hf
    exact g_zret C hb27 rfl (gdec dt_X1_readPart 25 rfl)
  replace hf := (if_neg hc25).symm.trans hf
  by_cases hc28 : (w.1 1 2) = (9 : Int32)
  · have hf := (if_pos hc28).symm.trans hf
    refine g_tableIn C (tgt := 102) (off := 95) (gdec dt_X1_readPart 3 rfl) (by rw [hc28]; decide) (by rw [hc28]; decide) (by rw [hc28]; decide) (by decide) ?_
    refine g_aload_n C (gdec dt_X1_readPart 22 rfl) (i := 0) rfl rfl ?_
    refine g_getr C (j := 1) kf_X1_18 rfl rfl (gdec dt_X1_readPart 23 rfl) ?_
    obtain ⟨q29, hq29, hf⟩ := Option.bind_eq_some_iff.mp hf
    refine g_invVs e_shBR_shT_1 [] [] C (c_X8_failHere l D cA _ (gInj_sub em_e_shBR_shT_1 (gCi C)) (gsub w e_shBR_shT_1)  q29 hq29) em_e_shBR_shT_1 (by decide) rfl kT_X8_failHere kl_X1_62 kim_X8_failHere kse_X8_failHere rfl rfl (i := 1) rfl rfl ⟨by decide, by decide⟩ gk0 (Nat.le_of_ble_eq_true rfl) (gdec dt_X1_readPart 24 rfl) rfl (st2 := [.int q29.1]) (w2 := (gput w e_shBR_shT_1 q29.2)) rfl rfl ?_
    obtain ⟨hb30, hf⟩ := gif hf
    cases hf
    exact g_zret C hb30 rfl (gdec dt_X1_readPart 25 rfl)
  replace hf := (if_neg hc28).symm.trans hf
  by_cases hc31 : (w.1 1 2) = (10 : Int32)
  · have hf := (if_pos hc31).symm.trans hf
    refine g_tableIn C (tgt := 102) (off := 95) (gdec dt_X1_readPart 3 rfl) (by rw [hc31]; decide) (by rw [hc31]; decide) (by rw [hc31]; decide) (by decide) ?_
    refine g_aload_n C (gdec dt_X1_readPart 22 rfl) (i := 0) rfl rfl ?_
    refine g_getr C (j := 1) kf_X1_18 rfl rfl (gdec dt_X1_readPart 23 rfl) ?_
    obtain ⟨q32, hq32, hf⟩ := Option.bind_eq_some_iff.mp hf
    refine g_invVs e_shBR_shT_1 [] [] C (c_X8_failHere l D cA _ (gInj_sub em_e_shBR_shT_1 (gCi C)) (gsub w e_shBR_shT_1)  q32 hq32) em_e_shBR_shT_1 (by decide) rfl kT_X8_failHere kl_X1_62 kim_X8_failHere kse_X8_failHere rfl rfl (i := 1) rfl rfl ⟨by decide, by decide⟩ gk0 (Nat.le_of_ble_eq_true rfl) (gdec dt_X1_readPart 24 rfl) rfl (st2 := [.int q32.1]) (w2 := (gput w e_shBR_shT_1 q32.2)) rfl rfl ?_
    obtain ⟨hb33, hf⟩ := gif hf
    cases hf
    exact g_zret C hb33 rfl (gdec dt_X1_readPart 25 rfl)
  replace hf := (if_neg hc31).symm.trans hf
  by_cases hc34 : (w.1 1 2) = (11 : Int32)
  · have hf := (if_pos hc34).symm.trans hf
    refine g_tableIn C (tgt := 102) (off := 95) (gdec dt_X1_readPart 3 rfl) (by rw [hc34]; decide) (by rw [hc34]; decide) (by rw [hc34]; decide) (by decide) ?_
    refine g_aload_n C (gdec dt_X1_readPart 22 rfl) (i := 0) rfl rfl ?_
    refine g_getr C (j := 1) kf_X1_18 rfl rfl (gdec dt_X1_readPart 23 rfl) ?_
    obtain ⟨q35, hq35, hf⟩ := Option.bind_eq_some_iff.mp hf
    refine g_invVs e_shBR_shT_1 [] [] C (c_X8_failHere l D cA _ (gInj_sub em_e_shBR_shT_1 (gCi C)) (gsub w e_shBR_shT_1)  q35 hq35) em_e_shBR_shT_1 (by decide) rfl kT_X8_failHere kl_X1_62 kim_X8_failHere kse_X8_failHere rfl rfl (i := 1) rfl rfl ⟨by decide, by decide⟩ gk0 (Nat.le_of_ble_eq_true rfl) (gdec dt_X1_readPart 24 rfl) rfl (st2 := [.int q35.1]) (w2 := (gput w e_shBR_shT_1 q35.2)) rfl rfl ?_
    obtain ⟨hb36, hf⟩ := gif hf
    cases hf
    exact g_zret C hb36 rfl (gdec dt_X1_readPart 25 rfl)
  replace hf := (if_neg hc34).symm.trans hf
  by_cases hc37 : (w.1 1 2) = (12 : Int32)
  · have hf := (if_pos hc37).symm.trans hf
    refine g_tableIn C (tgt := 97) (off := 90) (gdec dt_X1_readPart 3 rfl) (by rw [hc37]; decide) (by rw [hc37]; decide) (by rw [hc37]; decide) (by decide) ?_
    refine g_aload_n C (gdec dt_X1_readPart 19 rfl) (i := 0) rfl rfl ?_
    obtain ⟨q38, hq38, hf⟩ := Option.bind_eq_some_iff.mp hf
    refine g_invV [] [] C (c_X1_readClient l D cA _ (gCi C) w  q38 hq38) kT_X1_readClient kl_X1_59 kim_X1_readClient kse_X1_readClient rfl rfl (i := 0) rfl rfl ⟨by decide, by decide⟩ gk0 (Nat.le_of_ble_eq_true rfl) (gdec dt_X1_readPart 20 rfl) rfl (st2 := [.int q38.1]) rfl ?_
    obtain ⟨hb39, hf⟩ := gif hf
    cases hf
    exact g_zret C hb39 rfl (gdec dt_X1_readPart 21 rfl)
  replace hf := (if_neg hc37).symm.trans hf
  refine g_tableOut C (tgt := 102) (gdec dt_X1_readPart 3 rfl) (gtsw_out (fun j hj => ?_)) (by decide) ?_
  · match j, hj with
    | 0, _ => exact lv_neT hc1 (by decide)
    | 1, _ => exact lv_neT hc4 (by decide)
    | 2, _ => exact lv_neT hc7 (by decide)
    | 3, _ => exact lv_neT hc10 (by decide)
    | 4, _ => exact lv_neT hc13 (by decide)
    | 5, _ => exact lv_neT hc16 (by decide)
    | 6, _ => exact lv_neT hc19 (by decide)
    | 7, _ => exact lv_neT hc22 (by decide)
    | 8, _ => exact lv_neT hc25 (by decide)
    | 9, _ => exact lv_neT hc28 (by decide)
    | 10, _ => exact lv_neT hc31 (by decide)
    | 11, _ => exact lv_neT hc34 (by decide)
    | 12, _ => exact lv_neT hc37 (by decide)
    | j + 13, hj => exact absurd hj (by simp)
  refine g_aload_n C (gdec dt_X1_readPart 22 rfl) (i := 0) rfl rfl ?_
  refine g_getr C (j := 1) kf_X1_18 rfl rfl (gdec dt_X1_readPart 23 rfl) ?_
  obtain ⟨q40, hq40, hf⟩ := Option.bind_eq_some_iff.mp hf
  refine g_invVs e_shBR_shT_1 [] [] C (c_X8_failHere l D cA _ (gInj_sub em_e_shBR_shT_1 (gCi C)) (gsub w e_shBR_shT_1)  q40 hq40) em_e_shBR_shT_1 (by decide) rfl kT_X8_failHere kl_X1_62 kim_X8_failHere kse_X8_failHere rfl rfl (i := 1) rfl rfl ⟨by decide, by decide⟩ gk0 (Nat.le_of_ble_eq_true rfl) (gdec dt_X1_readPart 24 rfl) rfl (st2 := [.int q40.1]) (w2 := (gput w e_shBR_shT_1 q40.2)) rfl rfl ?_
  obtain ⟨hb41, hf⟩ := gif hf
  cases hf
  exact g_zret C hb41 rfl (gdec dt_X1_readPart 25 rfl)
set_option maxHeartbeats 4000000 in
set_option maxRecDepth 100000 in
theorem Lb_X1_readParts_19 {p : Program} {l : Launch} {e : Env} {s : State} {m : MethodId} {args : Array Value} {below : List Frame} {meth : Method} {c : Code} {D : va_G} {cA ad : Nat → Nat} {q : (Int32 × GW)} (C : gC p c cX1_readParts meth m s args 2 (some .boolean) RX1 D cA ad shBR) {k19 : Int32 → GW → Option (Int32 × GW)} (hk19 : ∀ (x1 : Int32) (w : GW), k19 x1 w = some q → gW p l e (gRm 6 230) s m args below meth c D cA ad shBR 2 0 0 (gQ below D cA ad shBR (some (.int q.1)) q.2 args s) 19 [(0, .ref 0), (1, .int x1)] [] w) (x1 : Int32) (w : GW) (hf : b_X1_readParts_19 k19 x1 w = some q) : gW p l e (gRm 6 230) s m args below meth c D cA ad shBR 2 0 0 (gQ below D cA ad shBR (some (.int q.1)) q.2 args s) 19 [(0, .ref 0), (1, .int x1)] [] w := by
  unfold b_X1_readParts_19 at hf
  refine g_iload_n C (gdec dt_X1_readParts 11 rfl) (i := 1) rfl rfl ?_
  refine g_sipush C (gdec dt_X1_readParts 12 rfl) sc_901 ?_
  refine g_icmp_ge C (tgt := 51) (gdec dt_X1_readParts 13 rfl) (by decide) (fun hc2 => ?_) (fun hc2 => ?_)
  · have hf := (if_pos hc2).symm.trans hf
    refine g_iconst C (gdec dt_X1_readParts 25 rfl) ic_1 ?_
    cases hf
    exact g_zret C (Or.inr rfl) rfl (gdec dt_X1_readParts 26 rfl)
  · have hf := (if_neg hc2).symm.trans hf
    refine g_aload_n C (gdec dt_X1_readParts 14 rfl) (i := 0) rfl rfl ?_
    refine g_getr C (j := 1) kf_X1_18 rfl rfl (gdec dt_X1_readParts 15 rfl) ?_
    refine g_geti C kf_X1_31 rfl rfl (gdec dt_X1_readParts 16 rfl) ?_
    refine g_if_eq C (tgt := 51) (gdec dt_X1_readParts 17 rfl) (by decide) (fun hc3 => ?_) (fun hc3 => ?_)
    · have hf := (if_pos hc3).symm.trans hf
      refine g_iconst C (gdec dt_X1_readParts 25 rfl) ic_1 ?_
      cases hf
      exact g_zret C (Or.inr rfl) rfl (gdec dt_X1_readParts 26 rfl)
    · have hf := (if_neg hc3).symm.trans hf
      refine g_aload_n C (gdec dt_X1_readParts 18 rfl) (i := 0) rfl rfl ?_
      obtain ⟨q4, hq4, hf⟩ := Option.bind_eq_some_iff.mp hf
      refine g_invV [] [] C (c_X1_readPart l D cA _ (gCi C) w  q4 hq4) kT_X1_readPart kl_X1_37 kim_X1_readPart kse_X1_readPart rfl rfl (i := 0) rfl rfl ⟨by decide, by decide⟩ gk0 (Nat.le_of_ble_eq_true rfl) (gdec dt_X1_readParts 19 rfl) rfl (st2 := [.int q4.1]) rfl ?_
      refine g_if_ne C (tgt := 45) (gdec dt_X1_readParts 20 rfl) (by decide) (fun hc5 => ?_) (fun hc5 => ?_)
      · have hf := (if_neg hc5).symm.trans hf
        refine g_iinc C (gdec dt_X1_readParts 23 rfl) (kk := 1) rfl (v := (x1 + (1 : Int32))) rfl (by decide) (lo2 := [(1, .int (x1 + (1 : Int32))), (0, .ref 0)]) rfl ?_
        refine g_goto C (tgt := 19) (gdec dt_X1_readParts 24 rfl) (by decide) ?_
        refine g_sub [1, 0] (lo2 := [(0, .ref 0), (1, .int (x1 + (1 : Int32)))]) rfl ?_
        exact hk19 (x1 + (1 : Int32)) q4.2 hf
      · have hf := (if_pos hc5).symm.trans hf
        refine g_iconst C (gdec dt_X1_readParts 21 rfl) ic_0 ?_
        cases hf
        exact g_zret C (Or.inl rfl) rfl (gdec dt_X1_readParts 22 rfl)
theorem L_X1_readParts_19 {p : Program} {l : Launch} {e : Env} {s : State} {m : MethodId} {args : Array Value} {below : List Frame} {meth : Method} {c : Code} {D : va_G} {cA ad : Nat → Nat} {q : (Int32 × GW)} (C : gC p c cX1_readParts meth m s args 2 (some .boolean) RX1 D cA ad shBR) : ∀ (n : Nat) (x1 : Int32) (w : GW), f_X1_readParts_19 n x1 w = some q → gW p l e (gRm 6 230) s m args below meth c D cA ad shBR 2 0 0 (gQ below D cA ad shBR (some (.int q.1)) q.2 args s) 19 [(0, .ref 0), (1, .int x1)] [] w := by
  intro n
  induction n with
  | zero => intro _ _ hf; cases hf
  | succ n ih => intro x1 w hf; exact Lb_X1_readParts_19 C ih x1 w hf
set_option maxHeartbeats 4000000 in
set_option maxRecDepth 100000 in
theorem c_X1_readParts (l : Launch) (D : va_G) (cA ad : Nat → Nat) (hin : gInj ad shBR.length) (w : GW) (q : (Int32 × GW)) (hf : F_X1_readParts w = some q) : gMet l yX1_readParts cX1_readParts 2 (some .boolean) 6 230 D cA ad shBR [.ref 0] w (some (.int q.1)) q.2 := by
  refine g_entry (by decide) hin (Nat.le_of_ble_eq_true rfl) ?_
  intro p e s m args below meth c C
  unfold F_X1_readParts at hf
  show gW p l e (gRm 6 230) s m args below meth c D cA ad shBR 2 0 0 (gQ below D cA ad shBR (some (.int q.1)) q.2 args s) 0 [(0, .ref 0)] [] w
  refine g_aload_n C (gdec dt_X1_readParts 0 rfl) (i := 0) rfl rfl ?_
  refine g_getr C (j := 6) kf_X1_22 rfl rfl (gdec dt_X1_readParts 1 rfl) ?_
  obtain ⟨q1, hq1, hf⟩ := Option.bind_eq_some_iff.mp hf
  refine g_invVs e_shBR_shB_6 [] [] C (c_X0_clear l D cA _ (gInj_sub em_e_shBR_shB_6 (gCi C)) (gsub w e_shBR_shB_6)  q1 hq1) em_e_shBR_shB_6 (by decide) rfl kT_X0_clear kl_X1_26 kim_X0_clear kse_X0_clear rfl rfl (i := 6) rfl rfl ⟨by decide, by decide⟩ gk0 (Nat.le_of_ble_eq_true rfl) (gdec dt_X1_readParts 2 rfl) rfl (st2 := []) (w2 := (gput w e_shBR_shB_6 q1)) rfl rfl ?_
  refine g_aload_n C (gdec dt_X1_readParts 3 rfl) (i := 0) rfl rfl ?_
  refine g_iconst C (gdec dt_X1_readParts 4 rfl) ic_0 ?_
  refine g_putz C kf_X1_9 rfl rfl (Or.inl rfl) (gdec dt_X1_readParts 5 rfl) ?_
  refine g_aload_n C (gdec dt_X1_readParts 6 rfl) (i := 0) rfl rfl ?_
  refine g_iconst C (gdec dt_X1_readParts 7 rfl) ic_0 ?_
  refine g_putz C kf_X1_15 rfl rfl (Or.inl rfl) (gdec dt_X1_readParts 8 rfl) ?_
  refine g_iconst C (gdec dt_X1_readParts 9 rfl) ic_0 ?_
  refine g_istore_n C (gdec dt_X1_readParts 10 rfl) (i := 1) rfl (by decide) (lo2 := [(1, .int (0 : Int32)), (0, .ref 0)]) rfl ?_
  refine g_sub [1, 0] (lo2 := [(0, .ref 0), (1, .int (0 : Int32))]) rfl ?_
  exact L_X1_readParts_19 C FU (0 : Int32) (gI (gI (gput w e_shBR_shB_6 q1) 0 2 (0 : Int32)) 0 3 (0 : Int32)) hf
