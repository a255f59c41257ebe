def tb_X3_begin : List (Nat × Jvm.ClassFile.Instr × Nat) := [(0, .aload_n 0, 1), (1, .iconst 0, 1), (2, .putfield 9, 3), (5, .aload_n 0, 1), (6, .iconst 0, 1), (7, .putfield 15, 3), (10, .aload_n 0, 1), (11, .iconst 0, 1), (12, .putfield 24, 3), (15, .aload_n 0, 1), (16, .iconst 0, 1), (17, .putfield 27, 3), (20, .aload_n 0, 1), (21, .iload_n 1, 1), (22, .putfield 31, 3), (25, .aload_n 0, 1), (26, .iconst 0, 1), (27, .putfield 34, 3), (30, .return_, 1)]
set_option maxRecDepth 100000 in
theorem dt_X3_begin : ∀ q ∈ tb_X3_begin, decode cX3_begin q.1 = .ok q.2 := by decide +kernel
def tb_X3_isRoundOver : List (Nat × Jvm.ClassFile.Instr × Nat) := [(0, .aload_n 0, 1), (1, .getfield 34, 3), (4, .iconst 1, 1), (5, .isub, 1), (6, .istore_n 3, 1), (7, .iload_n 3, 1), (8, .ifCond .lt 26, 3), (11, .iload_n 3, 1), (12, .iconst 3, 1), (13, .if_icmp .ge 21, 3), (16, .aload_n 1, 1), (17, .aload_n 0, 1), (18, .getfield 37, 3), (21, .iload_n 3, 1), (22, .iaload, 1), (23, .invokevirtual 70, 3), (26, .iload_n 2, 1), (27, .if_icmp .ne 7, 3), (30, .iconst 1, 1), (31, .goto 4, 3), (34, .iconst 0, 1), (35, .ireturn, 1)]
set_option maxRecDepth 100000 in
theorem dt_X3_isRoundOver : ∀ q ∈ tb_X3_isRoundOver, decode cX3_isRoundOver q.1 = .ok q.2 := by decide +kernel
def tb_X3_behindRound : List (Nat × Jvm.ClassFile.Instr × Nat) := [(0, .aload_n 0, 1), (1, .getfield 34, 3), (4, .iconst 1, 1), (5, .isub, 1), (6, .istore_n 2, 1), (7, .iload_n 2, 1), (8, .ifCond .lt 36, 3), (11, .iload_n 2, 1), (12, .iconst 3, 1), (13, .if_icmp .ge 31, 3), (16, .aload_n 0, 1), (17, .getfield 41, 3), (20, .iload_n 2, 1), (21, .iaload, 1), (22, .ifCond .le 22, 3), (25, .aload_n 0, 1), (26, .getfield 41, 3), (29, .iload_n 2, 1), (30, .dup2, 1), (31, .iaload, 1), (32, .iconst 1, 1), (33, .isub, 1), (34, .iastore, 1), (35, .aload_n 0, 1), (36, .getfield 37, 3), (39, .iload_n 2, 1), (40, .iaload, 1), (41, .iconst 1, 1), (42, .iadd, 1), (43, .ireturn, 1), (44, .aload_n 0, 1), (45, .dup, 1), (46, .getfield 34, 3), (49, .iconst 1, 1), (50, .isub, 1), (51, .putfield 34, 3), (54, .iload_n 1, 1), (55, .ireturn, 1)]
set_option maxRecDepth 100000 in
theorem dt_X3_behindRound : ∀ q ∈ tb_X3_behindRound, decode cX3_behindRound q.1 = .ok q.2 := by decide +kernel
def tb_X3_foundBy : List (Nat × Jvm.ClassFile.Instr × Nat) := [(0, .iload_n 1, 1), (1, .lookupswitch 45 #[(4, 27), (24, 39)], 27), (28, .aload_n 0, 1), (29, .aload_n 0, 1), (30, .iload_n 2, 1), (31, .invokevirtual 113, 3), (34, .invokevirtual 116, 3), (37, .iconst 1, 1), (38, .iadd, 1), (39, .ireturn, 1), (40, .aload_n 0, 1), (41, .iload_n 2, 1), (42, .invokevirtual 113, 3), (45, .ireturn, 1), (46, .aload_n 0, 1), (47, .getfield 119, 3), (50, .ireturn, 1)]
set_option maxRecDepth 100000 in
theorem dt_X3_foundBy : ∀ q ∈ tb_X3_foundBy, decode cX3_foundBy q.1 = .ok q.2 := by decide +kernel
def tb_X3_holds : List (Nat × Jvm.ClassFile.Instr × Nat) := [(0, .aload_n 0, 1), (1, .aload_n 1, 1), (2, .getfield 100, 3), (5, .iload_n 2, 1), (6, .iaload, 1), (7, .aload_n 1, 1), (8, .getfield 103, 3), (11, .iload_n 2, 1), (12, .iaload, 1), (13, .invokestatic 106, 3), (16, .istore_n 3, 1), (17, .aload_n 1, 1), (18, .getfield 110, 3), (21, .iload_n 2, 1), (22, .iaload, 1), (23, .lookupswitch 57 #[(60, 25), (62, 41)], 25), (48, .iload_n 3, 1), (49, .aload_n 1, 1), (50, .getfield 97, 3), (53, .iload_n 2, 1), (54, .iaload, 1), (55, .if_icmp .ge 7, 3), (58, .iconst 1, 1), (59, .goto 4, 3), (62, .iconst 0, 1), (63, .ireturn, 1), (64, .iload_n 3, 1), (65, .aload_n 1, 1), (66, .getfield 97, 3), (69, .iload_n 2, 1), (70, .iaload, 1), (71, .if_icmp .le 7, 3), (74, .iconst 1, 1), (75, .goto 4, 3), (78, .iconst 0, 1), (79, .ireturn, 1), (80, .iload_n 3, 1), (81, .aload_n 1, 1), (82, .getfield 97, 3), (85, .iload_n 2, 1), (86, .iaload, 1), (87, .if_icmp .ne 7, 3), (90, .iconst 1, 1), (91, .goto 4, 3), (94, .iconst 0, 1), (95, .ireturn, 1)]
set_option maxRecDepth 100000 in
theorem dt_X3_holds : ∀ q ∈ tb_X3_holds, decode cX3_holds q.1 = .ok q.2 := by decide +kernel
def tb_X3_enterLoop : List (Nat × Jvm.ClassFile.Instr × Nat) := [(0, .aload_n 0, 1), (1, .getfield 34, 3), (4, .ifCond .lt 59, 3), (7, .aload_n 0, 1), (8, .getfield 34, 3), (11, .iconst 3, 1), (12, .if_icmp .ge 51, 3), (15, .aload_n 1, 1), (16, .iload_n 2, 1), (17, .invokevirtual 70, 3), (20, .iload_n 2, 1), (21, .iconst 1, 1), (22, .iadd, 1), (23, .if_icmp .le 40, 3), (26, .aload_n 0, 1), (27, .getfield 37, 3), (30, .aload_n 0, 1), (31, .getfield 34, 3), (34, .iload_n 2, 1), (35, .iastore, 1), (36, .aload_n 0, 1), (37, .getfield 41, 3), (40, .aload_n 0, 1), (41, .getfield 34, 3), (44, .aload_n 1, 1), (45, .getfield 97, 3), (48, .iload_n 2, 1), (49, .iaload, 1), (50, .iconst 1, 1), (51, .isub, 1), (52, .iastore, 1), (53, .aload_n 0, 1), (54, .dup, 1), (55, .getfield 34, 3), (58, .iconst 1, 1), (59, .iadd, 1), (60, .putfield 34, 3), (63, .return_, 1)]
set_option maxRecDepth 100000 in
theorem dt_X3_enterLoop : ∀ q ∈ tb_X3_enterLoop, decode cX3_enterLoop q.1 = .ok q.2 := by decide +kernel
def tb_X3_drawBy : List (Nat × Jvm.ClassFile.Instr × Nat) := [(0, .aload_n 0, 1), (1, .aload_n 0, 1), (2, .getfield 31, 3), (5, .sipush 3253, 3), (8, .imul, 1), (9, .sipush 11471, 3), (12, .iadd, 1), (13, .ldc 159, 2), (15, .irem, 1), (16, .putfield 31, 3), (19, .iload_n 1, 1), (20, .ifCond .le 15, 3), (23, .aload_n 0, 1), (24, .getfield 31, 3), (27, .bipush 8, 2), (29, .idiv, 1), (30, .iload_n 1, 1), (31, .irem, 1), (32, .goto 4, 3), (35, .iconst 0, 1), (36, .ireturn, 1)]
set_option maxRecDepth 100000 in
theorem dt_X3_drawBy : ∀ q ∈ tb_X3_drawBy, decode cX3_drawBy q.1 = .ok q.2 := by decide +kernel
def tb_X3_dustOrWait : List (Nat × Jvm.ClassFile.Instr × Nat) := [(0, .aload_n 1, 1), (1, .getfield 150, 3), (4, .ifCond .ne 5, 3), (7, .iconst 0, 1), (8, .ireturn, 1), (9, .aload_n 0, 1), (10, .aload_n 1, 1), (11, .getfield 150, 3), (14, .invokevirtual 153, 3), (17, .istore_n 2, 1), (18, .aload_n 0, 1), (19, .bipush 16, 2), (21, .invokevirtual 153, 3), (24, .istore_n 3, 1), (25, .iload_n 3, 1), (26, .aload_n 1, 1), (27, .getfield 156, 3), (30, .if_icmp .ge 18, 3), (33, .aload_n 1, 1), (34, .iload_n 2, 1), (35, .invokevirtual 138, 3), (38, .iconst (-1), 1), (39, .if_icmp .eq 7, 3), (42, .iconst 1, 1), (43, .goto 4, 3), (46, .iconst 0, 1), (47, .ireturn, 1), (48, .aload_n 1, 1), (49, .iconst 1, 1), (50, .invokevirtual 122, 3), (53, .iconst (-1), 1), (54, .if_icmp .eq 7, 3), (57, .iconst 1, 1), (58, .goto 4, 3), (61, .iconst 0, 1), (62, .ireturn, 1)]
set_option maxRecDepth 100000 in
theorem dt_X3_dustOrWait : ∀ q ∈ tb_X3_dustOrWait, decode cX3_dustOrWait q.1 = .ok q.2 := by decide +kernel
def tb_X3_payClients : List (Nat × Jvm.ClassFile.Instr × Nat) := [(0, .aload_n 1, 1), (1, .invokevirtual 147, 3), (4, .istore_n 2, 1), (5, .iload_n 2, 1), (6, .iconst (-1), 1), (7, .if_icmp .ne 5, 3), (10, .iconst 0, 1), (11, .ireturn, 1), (12, .aload_n 0, 1), (13, .dup, 1), (14, .getfield 24, 3), (17, .iload_n 2, 1), (18, .iadd, 1), (19, .putfield 24, 3), (22, .iconst 1, 1), (23, .ireturn, 1)]
set_option maxRecDepth 100000 in
theorem dt_X3_payClients : ∀ q ∈ tb_X3_payClients, decode cX3_payClients q.1 = .ok q.2 := by decide +kernel
def tb_X3_act : List (Nat × Jvm.ClassFile.Instr × Nat) := [(0, .aload_n 2, 1), (1, .getfield 103, 3), (4, .iload_n 3, 1), (5, .iaload, 1), (6, .istore 4, 2), (8, .aload_n 2, 1), (9, .getfield 97, 3), (12, .iload_n 3, 1), (13, .iaload, 1), (14, .istore 5, 2), (16, .aload_n 2, 1), (17, .getfield 79, 3), (20, .iload_n 3, 1), (21, .iaload, 1), (22, .tableswitch 144 15 20 #[38, 54, 72, 94, 112, 128], 38), (60, .aload_n 1, 1), (61, .iload 5, 2), (63, .invokevirtual 122, 3), (66, .iconst (-1), 1), (67, .if_icmp .eq 7, 3), (70, .iconst 1, 1), (71, .goto 4, 3), (74, .iconst 0, 1), (75, .ireturn, 1), (76, .aload_n 1, 1), (77, .iload 4, 2), (79, .iload 5, 2), (81, .invokevirtual 125, 3), (84, .iconst (-1), 1), (85, .if_icmp .eq 7, 3), (88, .iconst 1, 1), (89, .goto 4, 3), (92, .iconst 0, 1), (93, .ireturn, 1), (94, .aload_n 1, 1), (95, .iload 4, 2), (97, .aload_n 2, 1), (98, .getfield 129, 3), (101, .iload_n 3, 1), (102, .iaload, 1), (103, .invokevirtual 132, 3), (106, .iconst (-1), 1), (107, .if_icmp .eq 7, 3), (110, .iconst 1, 1), (111, .goto 4, 3), (114, .iconst 0, 1), (115, .ireturn, 1), (116, .aload_n 1, 1), (117, .iload 4, 2), (119, .iload 5, 2), (121, .invokevirtual 135, 3), (124, .iconst (-1), 1), (125, .if_icmp .eq 7, 3), (128, .iconst 1, 1), (129, .goto 4, 3), (132, .iconst 0, 1), (133, .ireturn, 1), (134, .aload_n 1, 1), (135, .iload 4, 2), (137, .invokevirtual 138, 3), (140, .iconst (-1), 1), (141, .if_icmp .eq 7, 3), (144, .iconst 1, 1), (145, .goto 4, 3), (148, .iconst 0, 1), (149, .ireturn, 1), (150, .aload_n 1, 1), (151, .iload 4, 2), (153, .invokevirtual 141, 3), (156, .iconst (-1), 1), (157, .if_icmp .eq 7, 3), (160, .iconst 1, 1), (161, .goto 4, 3), (164, .iconst 0, 1), (165, .ireturn, 1), (166, .aload_n 0, 1), (167, .aload_n 1, 1), (168, .invokevirtual 144, 3), (171, .ireturn, 1)]
set_option maxRecDepth 100000 in
theorem dt_X3_act : ∀ q ∈ tb_X3_act, decode cX3_act q.1 = .ok q.2 := by decide +kernel
def tb_X3_behindStep : List (Nat × Jvm.ClassFile.Instr × Nat) := [(0, .aload_n 2, 1), (1, .iload_n 3, 1), (2, .invokevirtual 75, 3), (5, .ifCond .ne 5, 3), (8, .iconst (-1), 1), (9, .ireturn, 1), (10, .aload_n 0, 1), (11, .getfield 9, 3), (14, .sipush 300, 3), (17, .if_icmp .lt 10, 3), (20, .aload_n 0, 1), (21, .iconst 1, 1), (22, .putfield 27, 3), (25, .iconst (-1), 1), (26, .ireturn, 1), (27, .aload_n 0, 1), (28, .dup, 1), (29, .getfield 9, 3), (32, .iconst 1, 1), (33, .iadd, 1), (34, .putfield 9, 3), (37, .aload_n 2, 1), (38, .getfield 79, 3), (41, .iload_n 3, 1), (42, .iaload, 1), (43, .istore 4, 2), (45, .iload 4, 2), (47, .bipush 27, 2), (49, .if_icmp .ne 5, 3), (52, .iconst (-1), 1), (53, .ireturn, 1), (54, .iload 4, 2), (56, .bipush 23, 2), (58, .if_icmp .ne 24, 3), (61, .aload_n 1, 1), (62, .aload_n 2, 1), (63, .iload_n 3, 1), (64, .invokestatic 82, 3), (67, .ifCond .eq 9, 3), (70, .iload_n 3, 1), (71, .iconst 1, 1), (72, .iadd, 1), (73, .goto 8, 3), (76, .aload_n 2, 1), (77, .iload_n 3, 1), (78, .invokevirtual 70, 3), (81, .ireturn, 1), (82, .iload 4, 2), (84, .bipush 25, 2), (86, .if_icmp .ne 13, 3), (89, .aload_n 0, 1), (90, .aload_n 2, 1), (91, .iload_n 3, 1), (92, .invokevirtual 86, 3), (95, .iload_n 3, 1), (96, .iconst 1, 1), (97, .iadd, 1), (98, .ireturn, 1), (99, .iload 4, 2), (101, .bipush 22, 2), (103, .if_icmp .ne 11, 3), (106, .aload_n 0, 1), (107, .aload_n 1, 1), (108, .invokevirtual 90, 3), (111, .goto 10, 3), (114, .aload_n 0, 1), (115, .aload_n 1, 1), (116, .aload_n 2, 1), (117, .iload_n 3, 1), (118, .invokevirtual 94, 3), (121, .istore 5, 2), (123, .iload 5, 2), (125, .ifCond .ne 13, 3), (128, .aload_n 0, 1), (129, .dup, 1), (130, .getfield 15, 3), (133, .iconst 1, 1), (134, .iadd, 1), (135, .putfield 15, 3), (138, .iload_n 3, 1), (139, .iconst 1, 1), (140, .iadd, 1), (141, .ireturn, 1)]
set_option maxRecDepth 100000 in
theorem dt_X3_behindStep : ∀ q ∈ tb_X3_behindStep, decode cX3_behindStep q.1 = .ok q.2 := by decide +kernel
def tb_X3_goThrough : List (Nat × Jvm.ClassFile.Instr × Nat) := [(0, .aload_n 0, 1), (1, .iload_n 3, 1), (2, .invokevirtual 44, 3), (5, .aload_n 1, 1), (6, .getfield 48, 3), (9, .istore 4, 2), (11, .aload_n 1, 1), (12, .invokevirtual 53, 3), (15, .istore 5, 2), (17, .iconst 0, 1), (18, .istore 6, 2), (20, .iconst 0, 1), (21, .istore 7, 2), (23, .iload 7, 2), (25, .ldc 57, 2), (27, .if_icmp .ge 44, 3), (30, .iload 6, 2), (32, .iconst (-1), 1), (33, .if_icmp .eq 38, 3), (36, .aload_n 0, 1), (37, .aload_n 2, 1), (38, .iload 6, 2), (40, .invokevirtual 58, 3), (43, .ifCond .eq 12, 3), (46, .aload_n 0, 1), (47, .iload 6, 2), (49, .invokevirtual 62, 3), (52, .goto 11, 3), (55, .aload_n 0, 1), (56, .aload_n 1, 1), (57, .aload_n 2, 1), (58, .iload 6, 2), (60, .invokevirtual 66, 3), (63, .istore 6, 2), (65, .iinc 7 1, 3), (68, .goto (-45), 3), (71, .aload_n 0, 1), (72, .aload_n 1, 1), (73, .getfield 48, 3), (76, .iload 4, 2), (78, .isub, 1), (79, .putfield 18, 3), (82, .aload_n 0, 1), (83, .aload_n 1, 1), (84, .invokevirtual 53, 3), (87, .iload 5, 2), (89, .isub, 1), (90, .putfield 21, 3), (93, .return_, 1)]
set_option maxRecDepth 100000 in
theorem dt_X3_goThrough : ∀ q ∈ tb_X3_goThrough, decode cX3_goThrough q.1 = .ok q.2 := by decide +kernel
def F_X3_begin (x1 : Int32) (w : GW) : Option GW := (some (gI (gI (gI (gI (gI (gI w 0 0 (0 : Int32)) 0 1 (0 : Int32)) 0 4 (0 : Int32)) 0 5 (0 : Int32)) 0 6 x1) 0 7 (0 : Int32)))
def F_X3_isRoundOver (w : GW) (x2 : Int32) : Option Int32 := (if ((w.1 0 7) - (1 : Int32)) < 0 then (some (0 : Int32)) else (if (3 : Int32) ≤ ((w.1 0 7) - (1 : Int32)) then (some (0 : Int32)) else (if gin ((w.1 0 7) - (1 : Int32)) 3 then ((F_X5_closeOf (gsub w e_shL_shP_16) (w.1 1 ((w.1 0 7) - (1 : Int32)).toNatClampNeg)).bind fun q4 => (if q4 = x2 then (some (1 : Int32)) else (some (0 : Int32)))) else none)))
def f_X3_behindRound_44 (x1 : Int32) (w : GW) : Option (Int32 × GW) := (some (x1, (gI w 0 7 ((w.1 0 7) - (1 : Int32)))))
def F_X3_behindRound (x1 : Int32) (w : GW) : Option (Int32 × GW) := (if ((w.1 0 7) - (1 : Int32)) < 0 then (f_X3_behindRound_44 x1 w) else (if (3 : Int32) ≤ ((w.1 0 7) - (1 : Int32)) then (f_X3_behindRound_44 x1 w) else (if gin ((w.1 0 7) - (1 : Int32)) 3 then (if (w.1 2 ((w.1 0 7) - (1 : Int32)).toNatClampNeg) ≤ 0 then (f_X3_behindRound_44 x1 w) else (some (((w.1 1 ((w.1 0 7) - (1 : Int32)).toNatClampNeg) + (1 : Int32)), (gI w 2 ((w.1 0 7) - (1 : Int32)).toNatClampNeg ((w.1 2 ((w.1 0 7) - (1 : Int32)).toNatClampNeg) - (1 : Int32)))))) else none)))
def F_X3_foundBy (w : GW) (x1 : Int32) (x2 : Int32) : Option Int32 := (if x1 = (4 : Int32) then ((F_X0_looksOf (gsub w e_shL_shB_3) x2).bind fun q2 => ((F_X0_rankBy (gsub w e_shL_shB_3) q2).bind fun q3 => (some (q3 + (1 : Int32))))) else (if x1 = (24 : Int32) then ((F_X0_looksOf (gsub w e_shL_shB_3) x2).bind fun q5 => (some q5)) else (some (w.1 3 1))))
def F_X3_holds (w : GW) (x2 : Int32) : Option Int32 := (if gin x2 30 then ((F_X3_foundBy w (w.1 21 x2.toNatClampNeg) (w.1 18 x2.toNatClampNeg)).bind fun q2 => (if (w.1 22 x2.toNatClampNeg) = (60 : Int32) then (if (w.1 20 x2.toNatClampNeg) ≤ q2 then (some (0 : Int32)) else (some (1 : Int32))) else (if (w.1 22 x2.toNatClampNeg) = (62 : Int32) then (if q2 ≤ (w.1 20 x2.toNatClampNeg) then (some (0 : Int32)) else (some (1 : Int32))) else (if q2 = (w.1 20 x2.toNatClampNeg) then (some (1 : Int32)) else (some (0 : Int32)))))) else none)
def F_X3_enterLoop (x2 : Int32) (w : GW) : Option GW := (if (w.1 0 7) < 0 then (some w) else (if (3 : Int32) ≤ (w.1 0 7) then (some w) else ((F_X5_closeOf (gsub w e_shL_shP_16) x2).bind fun q3 => (if q3 ≤ (x2 + (1 : Int32)) then (some w) else (if gin (w.1 0 7) 3 then (if gin x2 30 then (some (gI (gI (gI w 1 (w.1 0 7).toNatClampNeg x2) 2 (w.1 0 7).toNatClampNeg ((w.1 20 x2.toNatClampNeg) - (1 : Int32))) 0 7 ((w.1 0 7) + (1 : Int32)))) else none) else none)))))
def F_X3_drawBy (x1 : Int32) (w : GW) : Option (Int32 × GW) := (if x1 ≤ 0 then (some ((0 : Int32), (gI w 0 6 ((((w.1 0 6) * (3253 : Int32)) + (11471 : Int32)) - (((w.1 0 6) * (3253 : Int32)) + (11471 : Int32)) / (65536 : Int32) * (65536 : Int32))))) else (if x1 = 0 then none else (some (((((((w.1 0 6) * (3253 : Int32)) + (11471 : Int32)) - (((w.1 0 6) * (3253 : Int32)) + (11471 : Int32)) / (65536 : Int32) * (65536 : Int32)) / (8 : Int32)) - (((((w.1 0 6) * (3253 : Int32)) + (11471 : Int32)) - (((w.1 0 6) * (3253 : Int32)) + (11471 : Int32)) / (65536 : Int32) * (65536 : Int32)) / (8 : Int32)) / x1 * x1), (gI w 0 6 ((((w.1 0 6) * (3253 : Int32)) + (11471 : Int32)) - (((w.1 0 6) * (3253 : Int32)) + (11471 : Int32)) / (65536 : Int32) * (65536 : Int32)))))))
def F_X3_dustOrWait (w : GW) : Option (Int32 × GW) := (if (w.1 3 5) = 0 then (some ((0 : Int32), w)) else ((F_X3_drawBy (w.1 3 5) w).bind fun q2 => ((F_X3_drawBy (16 : Int32) q2.2).bind fun q3 => (if (q3.2.1 3 0) ≤ q3.1 then ((F_X0_passYears (1 : Int32) (gsub q3.2 e_shL_shB_3)).bind fun q5 => (if q5.1 = (-1 : Int32) then (some ((0 : Int32), (gput q3.2 e_shL_shB_3 q5.2))) else (some ((1 : Int32), (gput q3.2 e_shL_shB_3 q5.2))))) else ((F_X0_wipe q2.1 (gsub q3.2 e_shL_shB_3)).bind fun q7 => (if q7.1 = (-1 : Int32) then (some ((0 : Int32), (gput q3.2 e_shL_shB_3 q7.2))) else (some ((1 : Int32), (gput q3.2 e_shL_shB_3 q7.2)))))))))
def F_X3_payClients (w : GW) : Option (Int32 × GW) := ((F_X0_payComing (gsub w e_shL_shB_3)).bind fun q1 => (if q1.1 = (-1 : Int32) then (some ((0 : Int32), (gput w e_shL_shB_3 q1.2))) else (some ((1 : Int32), (gI (gput w e_shL_shB_3 q1.2) 0 4 ((w.1 0 4) + q1.1))))))
def F_X3_act (x3 : Int32) (w : GW) : Option (Int32 × GW) := (if gin x3 30 then (if (w.1 17 x3.toNatClampNeg) = (15 : Int32) then ((F_X0_passYears (w.1 20 x3.toNatClampNeg) (gsub w e_shL_shB_3)).bind fun q3 => (if q3.1 = (-1 : Int32) then (some ((0 : Int32), (gput w e_shL_shB_3 q3.2))) else (some ((1 : Int32), (gput w e_shL_shB_3 q3.2))))) else (if (w.1 17 x3.toNatClampNeg) = (16 : Int32) then ((F_X0_seatElsewhere (w.1 18 x3.toNatClampNeg) (w.1 20 x3.toNatClampNeg) (gsub w e_shL_shB_3)).bind fun q6 => (if q6.1 = (-1 : Int32) then (some ((0 : Int32), (gput w e_shL_shB_3 q6.2))) else (some ((1 : Int32), (gput w e_shL_shB_3 q6.2))))) else (if (w.1 17 x3.toNatClampNeg) = (17 : Int32) then ((F_X0_exchange (w.1 18 x3.toNatClampNeg) (w.1 19 x3.toNatClampNeg) (gsub w e_shL_shB_3)).bind fun q9 => (if q9.1 = (-1 : Int32) then (some ((0 : Int32), (gput w e_shL_shB_3 q9.2))) else (some ((1 : Int32), (gput w e_shL_shB_3 q9.2))))) else (if (w.1 17 x3.toNatClampNeg) = (18 : Int32) then ((F_X0_addSham (w.1 18 x3.toNatClampNeg) (w.1 20 x3.toNatClampNeg) (gsub w e_shL_shB_3)).bind fun q12 => (if q12.1 = (-1 : Int32) then (some ((0 : Int32), (gput w e_shL_shB_3 q12.2))) else (some ((1 : Int32), (gput w e_shL_shB_3 q12.2))))) else (if (w.1 17 x3.toNatClampNeg) = (19 : Int32) then ((F_X0_wipe (w.1 18 x3.toNatClampNeg) (gsub w e_shL_shB_3)).bind fun q15 => (if q15.1 = (-1 : Int32) then (some ((0 : Int32), (gput w e_shL_shB_3 q15.2))) else (some ((1 : Int32), (gput w e_shL_shB_3 q15.2))))) else (if (w.1 17 x3.toNatClampNeg) = (20 : Int32) then ((F_X0_exposeSham (w.1 18 x3.toNatClampNeg) (gsub w e_shL_shB_3)).bind fun q18 => (if q18.1 = (-1 : Int32) then (some ((0 : Int32), (gput w e_shL_shB_3 q18.2))) else (some ((1 : Int32), (gput w e_shL_shB_3 q18.2))))) else ((F_X3_payClients w).bind fun q20 => (if q20.1 = 0 ∨ q20.1 = 1 then some (q20.1, q20.2) else none)))))))) else none)
def f_X3_behindStep_138 (x3 : Int32) (w : GW) : Option (Int32 × GW) := (some ((x3 + (1 : Int32)), w))
def f_X3_behindStep_121 (x3 : Int32) (s0 : Int32) (w : GW) : Option (Int32 × GW) := (if s0 = 0 then (f_X3_behindStep_138 x3 (gI w 0 1 ((w.1 0 1) + (1 : Int32)))) else (f_X3_behindStep_138 x3 w))
def F_X3_behindStep (x3 : Int32) (w : GW) : Option (Int32 × GW) := ((F_X5_hasStep (gsub w e_shL_shP_16) x3).bind fun q1 => (if q1 = 0 then (some ((-1 : Int32), w)) else (if (w.1 0 0) < (300 : Int32) then (if gin x3 30 then (if (w.1 17 x3.toNatClampNeg) = (27 : Int32) then (some ((-1 : Int32), (gI w 0 0 ((w.1 0 0) + (1 : Int32))))) else (if (w.1 17 x3.toNatClampNeg) = (23 : Int32) then ((F_X3_holds (gI w 0 0 ((w.1 0 0) + (1 : Int32))) x3).bind fun q12 => (if q12 = 0 then ((F_X5_closeOf (gsub (gI w 0 0 ((w.1 0 0) + (1 : Int32))) e_shL_shP_16) x3).bind fun q14 => (some (q14, (gI w 0 0 ((w.1 0 0) + (1 : Int32)))))) else (some ((x3 + (1 : Int32)), (gI w 0 0 ((w.1 0 0) + (1 : Int32))))))) else (if (w.1 17 x3.toNatClampNeg) = (25 : Int32) then ((F_X3_enterLoop x3 (gI w 0 0 ((w.1 0 0) + (1 : Int32)))).bind fun q11 => (some ((x3 + (1 : Int32)), q11))) else (if (w.1 17 x3.toNatClampNeg) = (22 : Int32) then ((F_X3_dustOrWait (gI w 0 0 ((w.1 0 0) + (1 : Int32)))).bind fun q10 => (f_X3_behindStep_121 x3 q10.1 q10.2)) else ((F_X3_act x3 (gI w 0 0 ((w.1 0 0) + (1 : Int32)))).bind fun q9 => (f_X3_behindStep_121 x3 q9.1 q9.2)))))) else none) else (some ((-1 : Int32), (gI w 0 5 (1 : Int32)))))))
def f_X3_goThrough_63 (k23 : Int32 → Int32 → Int32 → Int32 → GW → Option GW) (x4 : Int32) (x5 : Int32) (x7 : Int32) (s0 : Int32) (w : GW) : Option GW := (k23 x4 x5 s0 (x7 + (1 : Int32)) w)
def f_X3_goThrough_71 (x4 : Int32) (x5 : Int32) (w : GW) : Option GW := ((F_X0_paidOfAll (gsub (gI w 0 2 ((w.1 3 2) - x4)) e_shL_shB_3)).bind fun q9 => (some (gI (gI w 0 2 ((w.1 3 2) - x4)) 0 3 (q9 - x5))))
def b_X3_goThrough_23 (k23 : Int32 → Int32 → Int32 → Int32 → GW → Option GW) (x4 : Int32) (x5 : Int32) (x6 : Int32) (x7 : Int32) (w : GW) : Option GW := (if (1000000 : Int32) ≤ x7 then (f_X3_goThrough_71 x4 x5 w) else (if x6 = (-1 : Int32) then (f_X3_goThrough_71 x4 x5 w) else ((F_X3_isRoundOver w x6).bind fun q5 => (if q5 = 0 then ((F_X3_behindStep x6 w).bind fun q7 => (f_X3_goThrough_63 k23 x4 x5 x7 q7.1 q7.2)) else ((F_X3_behindRound x6 w).bind fun q8 => (f_X3_goThrough_63 k23 x4 x5 x7 q8.1 q8.2))))))
def f_X3_goThrough_23 : Nat → Int32 → Int32 → Int32 → Int32 → GW → Option GW
  | 0, _, _, _, _, _ => none
  | n + 1, x4, x5, x6, x7, w => b_X3_goThrough_23 (f_X3_goThrough_23 n) x4 x5 x6 x7 w
def F_X3_goThrough (x3 : Int32) (w : GW) : Option GW := ((F_X3_begin x3 w).bind fun q1 => ((F_X0_paidOfAll (gsub q1 e_shL_shB_3)).bind fun q2 => (f_X3_goThrough_23 FU (q1.1 3 2) q2 (0 : Int32) (0 : Int32) q1)))
set_option maxHeartbeats 4000000 in
set_option maxRecDepth 100000 in
theorem c_X3_begin (l : Launch) (D : va_G) (cA ad : Nat → Nat) (hin : gInj ad shL.length) (w : GW) (x1 : Int32) (q : GW) (hf : F_X3_begin x1 w = some q) : gMet l yX3_begin cX3_begin 2 none 1 120 D cA ad shL [.ref 0, .int x1] w none q := by
  refine g_entry (by decide) hin (Nat.le_of_ble_eq_true rfl) ?_
  intro p e s m args below meth c C
  unfold F_X3_begin at hf
  show gW p l e (gRm 1 120) s m args below meth c D cA ad shL 2 0 0 (gQ below D cA ad shL none q args s) 0 [(0, .ref 0), (1, .int x1)] [] w
  refine g_aload_n C (gdec dt_X3_begin 0 rfl) (i := 0) rfl rfl ?_
  refine g_iconst C (gdec dt_X3_begin 1 rfl) ic_0 ?_
  refine g_puti C kf_X3_9 rfl rfl (gdec dt_X3_begin 2 rfl) ?_
  refine g_aload_n C (gdec dt_X3_begin 3 rfl) (i := 0) rfl rfl ?_
  refine g_iconst C (gdec dt_X3_begin 4 rfl) ic_0 ?_
  refine g_puti C kf_X3_15 rfl rfl (gdec dt_X3_begin 5 rfl) ?_
  refine g_aload_n C (gdec dt_X3_begin 6 rfl) (i := 0) rfl rfl ?_
  refine g_iconst C (gdec dt_X3_begin 7 rfl) ic_0 ?_
  refine g_puti C kf_X3_24 rfl rfl (gdec dt_X3_begin 8 rfl) ?_
  refine g_aload_n C (gdec dt_X3_begin 9 rfl) (i := 0) rfl rfl ?_
  refine g_iconst C (gdec dt_X3_begin 10 rfl) ic_0 ?_
  refine g_putz C kf_X3_27 rfl rfl (Or.inl rfl) (gdec dt_X3_begin 11 rfl) ?_
  refine g_aload_n C (gdec dt_X3_begin 12 rfl) (i := 0) rfl rfl ?_
  refine g_iload_n C (gdec dt_X3_begin 13 rfl) (i := 1) rfl rfl ?_
  refine g_puti C kf_X3_31 rfl rfl (gdec dt_X3_begin 14 rfl) ?_
  refine g_aload_n C (gdec dt_X3_begin 15 rfl) (i := 0) rfl rfl ?_
  refine g_iconst C (gdec dt_X3_begin 16 rfl) ic_0 ?_
  refine g_puti C kf_X3_34 rfl rfl (gdec dt_X3_begin 17 rfl) ?_
  cases hf
  exact g_vret C rfl (gdec dt_X3_begin 18 rfl)
set_option maxHeartbeats 4000000 in
set_option maxRecDepth 100000 in
theorem c_X3_isRoundOver (l : Launch) (D : va_G) (cA ad : Nat → Nat) (hin : gInj ad shL.length) (w : GW) (x2 : Int32) (q : Int32) (hf : F_X3_isRoundOver w x2 = some q) : gMet l yX3_isRoundOver cX3_isRoundOver 4 (some .boolean) 3 162 D cA ad shL [.ref 0, .ref 16, .int x2] w (some (.int q)) w := by
  refine g_entry (by decide) hin (Nat.le_of_ble_eq_true rfl) ?_
  intro p e s m args below meth c C
  unfold F_X3_isRoundOver at hf
  show gW p l e (gRm 3 162) s m args below meth c D cA ad shL 4 0 0 (gQ below D cA ad shL (some (.int q)) w args s) 0 [(0, .ref 0), (1, .ref 16), (2, .int x2)] [] w
  refine g_aload_n C (gdec dt_X3_isRoundOver 0 rfl) (i := 0) rfl rfl ?_
  refine g_geti C kf_X3_34 rfl rfl (gdec dt_X3_isRoundOver 1 rfl) ?_
  refine g_iconst C (gdec dt_X3_isRoundOver 2 rfl) ic_1 ?_
  refine g_isub C (gdec dt_X3_isRoundOver 3 rfl) ?_
  refine g_istore_n C (gdec dt_X3_isRoundOver 4 rfl) (i := 3) rfl (by decide) (lo2 := [(3, .int ((w.1 0 7) - (1 : Int32))), (0, .ref 0), (1, .ref 16), (2, .int x2)]) rfl ?_
  refine g_iload_n C (gdec dt_X3_isRoundOver 5 rfl) (i := 3) rfl rfl ?_
  refine g_if_lt C (tgt := 34) (gdec dt_X3_isRoundOver 6 rfl) (by decide) (fun hc1 => ?_) (fun hc1 => ?_)
  · have hf := (if_pos hc1).symm.trans hf
    refine g_iconst C (gdec dt_X3_isRoundOver 20 rfl) ic_0 ?_
    cases hf
    exact g_zret C (Or.inl rfl) rfl (gdec dt_X3_isRoundOver 21 rfl)
  · have hf := (if_neg hc1).symm.trans hf
    refine g_iload_n C (gdec dt_X3_isRoundOver 7 rfl) (i := 3) rfl rfl ?_
    refine g_iconst C (gdec dt_X3_isRoundOver 8 rfl) ic_3 ?_
    refine g_icmp_ge C (tgt := 34) (gdec dt_X3_isRoundOver 9 rfl) (by decide) (fun hc2 => ?_) (fun hc2 => ?_)
    · have hf := (if_pos hc2).symm.trans hf
      refine g_iconst C (gdec dt_X3_isRoundOver 20 rfl) ic_0 ?_
      cases hf
      exact g_zret C (Or.inl rfl) rfl (gdec dt_X3_isRoundOver 21 rfl)
    · have hf := (if_neg hc2).symm.trans hf
      refine g_aload_n C (gdec dt_X3_isRoundOver 10 rfl) (i := 1) rfl rfl ?_
      refine g_aload_n C (gdec dt_X3_isRoundOver 11 rfl) (i := 0) rfl rfl ?_
      refine g_getr C (j := 1) kf_X3_37 rfl rfl (gdec dt_X3_isRoundOver 12 rfl) ?_
      refine g_iload_n C (gdec dt_X3_isRoundOver 13 rfl) (i := 3) rfl rfl ?_
      obtain ⟨hg3, hf⟩ := gif hf
      refine g_iald C (i := 1) rfl hg3 rfl (gdec dt_X3_isRoundOver 14 rfl) ?_
      obtain ⟨q4, hq4, hf⟩ := Option.bind_eq_some_iff.mp hf
      refine g_invVs e_shL_shP_16 [.int (w.1 1 ((w.1 0 7) - (1 : Int32)).toNatClampNeg)] [] C (c_X5_closeOf l D cA _ (gInj_sub em_e_shL_shP_16 (gCi C)) (gsub w e_shL_shP_16) (w.1 1 ((w.1 0 7) - (1 : Int32)).toNatClampNeg) q4 hq4) em_e_shL_shP_16 (by decide) rfl kT_X5_closeOf kl_X3_70 kim_X5_closeOf kse_X5_closeOf rfl rfl (i := 16) rfl rfl ⟨by decide, by decide⟩ gk0 (Nat.le_of_ble_eq_true rfl) (gdec dt_X3_isRoundOver 15 rfl) rfl (st2 := [.int q4]) (w2 := w) rfl (gput_sub _ _) ?_
      refine g_iload_n C (gdec dt_X3_isRoundOver 16 rfl) (i := 2) rfl rfl ?_
      refine g_icmp_ne C (tgt := 34) (gdec dt_X3_isRoundOver 17 rfl) (by decide) (fun hc5 => ?_) (fun hc5 => ?_)
      · have hf := (if_neg hc5).symm.trans hf
        refine g_iconst C (gdec dt_X3_isRoundOver 20 rfl) ic_0 ?_
        cases hf
        exact g_zret C (Or.inl rfl) rfl (gdec dt_X3_isRoundOver 21 rfl)
      · have hf := (if_pos hc5).symm.trans hf
        refine g_iconst C (gdec dt_X3_isRoundOver 18 rfl) ic_1 ?_
        refine g_goto C (tgt := 35) (gdec dt_X3_isRoundOver 19 rfl) (by decide) ?_
        cases hf
        exact g_zret C (Or.inr rfl) rfl (gdec dt_X3_isRoundOver 21 rfl)
set_option maxHeartbeats 4000000 in
set_option maxRecDepth 100000 in
theorem L_X3_behindRound_44 {p : Program} {l : Launch} {e : Env} {s : State} {m : MethodId} {args : Array Value} {below : List Frame} {meth : Method} {c : Code} {D : va_G} {cA ad : Nat → Nat} {q : (Int32 × GW)} (C : gC p c cX3_behindRound meth m s args 3 (some .int) RX3 D cA ad shL) (x1 : Int32) (w : GW) (hf : f_X3_behindRound_44 x1 w = some q) : gW p l e (gRm 1 120) s m args below meth c D cA ad shL 3 0 0 (gQ below D cA ad shL (some (.int q.1)) q.2 args s) 44 [(0, .ref 0), (1, .int x1)] [] w := by
  unfold f_X3_behindRound_44 at hf
  refine g_aload_n C (gdec dt_X3_behindRound 30 rfl) (i := 0) rfl rfl ?_
  refine g_dup C (gdec dt_X3_behindRound 31 rfl) rfl ?_
  refine g_geti C kf_X3_34 rfl rfl (gdec dt_X3_behindRound 32 rfl) ?_
  refine g_iconst C (gdec dt_X3_behindRound 33 rfl) ic_1 ?_
  refine g_isub C (gdec dt_X3_behindRound 34 rfl) ?_
  refine g_puti C kf_X3_34 rfl rfl (gdec dt_X3_behindRound 35 rfl) ?_
  refine g_iload_n C (gdec dt_X3_behindRound 36 rfl) (i := 1) rfl rfl ?_
  cases hf
  exact g_iret C rfl (gdec dt_X3_behindRound 37 rfl)
set_option maxHeartbeats 4000000 in
set_option maxRecDepth 100000 in
theorem c_X3_behindRound (l : Launch) (D : va_G) (cA ad : Nat → Nat) (hin : gInj ad shL.length) (w : GW) (x1 : Int32) (q : (Int32 × GW)) (hf : F_X3_behindRound x1 w = some q) : gMet l yX3_behindRound cX3_behindRound 3 (some .int) 1 120 D cA ad shL [.ref 0, .int x1] w (some (.int q.1)) q.2 := by
  refine g_entry (by decide) hin (Nat.le_of_ble_eq_true rfl) ?_
  intro p e s m args below meth c C
  unfold F_X3_behindRound at hf
  show gW p l e (gRm 1 120) s m args below meth c D cA ad shL 3 0 0 (gQ below D cA ad shL (some (.int q.1)) q.2 args s) 0 [(0, .ref 0), (1, .int x1)] [] w
  refine g_aload_n C (gdec dt_X3_behindRound 0 rfl) (i := 0) rfl rfl ?_
  refine g_geti C kf_X3_34 rfl rfl (gdec dt_X3_behindRound 1 rfl) ?_
  refine g_iconst C (gdec dt_X3_behindRound 2 rfl) ic_1 ?_
  refine g_isub C (gdec dt_X3_behindRound 3 rfl) ?_
  refine g_istore_n C (gdec dt_X3_behindRound 4 rfl) (i := 2) rfl (by decide) (lo2 := [(2, .int ((w.1 0 7) - (1 : Int32))), (0, .ref 0), (1, .int x1)]) rfl ?_
  refine g_iload_n C (gdec dt_X3_behindRound 5 rfl) (i := 2) rfl rfl ?_
  refine g_if_lt C (tgt := 44) (gdec dt_X3_behindRound 6 rfl) (by decide) (fun hc1 => ?_) (fun hc1 => ?_)
  · have hf := (if_pos hc1).symm.trans hf
    refine g_sub [1, 2] (lo2 := [(0, .ref 0), (1, .int x1)]) rfl ?_
    exact L_X3_behindRound_44 C x1 w hf
  · have hf := (if_neg hc1).symm.trans hf
    refine g_iload_n C (gdec dt_X3_behindRound 7 rfl) (i := 2) rfl rfl ?_
    refine g_iconst C (gdec dt_X3_behindRound 8 rfl) ic_3 ?_
    refine g_icmp_ge C (tgt := 44) (gdec dt_X3_behindRound 9 rfl) (by decide) (fun hc2 => ?_) (fun hc2 => ?_)
    · have hf := (if_pos hc2).symm.trans hf
      refine g_sub [1, 2] (lo2 := [(0, .ref 0), (1, .int x1)]) rfl ?_
      exact L_X3_behindRound_44 C x1 w hf
    · have hf := (if_neg hc2).symm.trans hf
      refine g_aload_n C (gdec dt_X3_behindRound 10 rfl) (i := 0) rfl rfl ?_
      refine g_getr C (j := 2) kf_X3_41 rfl rfl (gdec dt_X3_behindRound 11 rfl) ?_
      refine g_iload_n C (gdec dt_X3_behindRound 12 rfl) (i := 2) rfl rfl ?_
      obtain ⟨hg3, hf⟩ := gif hf
      refine g_iald C (i := 2) rfl hg3 rfl (gdec dt_X3_behindRound 13 rfl) ?_
      refine g_if_le C (tgt := 44) (gdec dt_X3_behindRound 14 rfl) (by decide) (fun hc4 => ?_) (fun hc4 => ?_)
      · have hf := (if_pos hc4).symm.trans hf
        refine g_sub [1, 2] (lo2 := [(0, .ref 0), (1, .int x1)]) rfl ?_
        exact L_X3_behindRound_44 C x1 w hf
      · have hf := (if_neg hc4).symm.trans hf
        refine g_aload_n C (gdec dt_X3_behindRound 15 rfl) (i := 0) rfl rfl ?_
        refine g_getr C (j := 2) kf_X3_41 rfl rfl (gdec dt_X3_behindRound 16 rfl) ?_
        refine g_iload_n C (gdec dt_X3_behindRound 17 rfl) (i := 2) rfl rfl ?_
        refine g_dup2 C (gdec dt_X3_behindRound 18 rfl) rfl rfl ?_
        refine g_iald C (i := 2) rfl hg3 rfl (gdec dt_X3_behindRound 19 rfl) ?_
        refine g_iconst C (gdec dt_X3_behindRound 20 rfl) ic_1 ?_
        refine g_isub C (gdec dt_X3_behindRound 21 rfl) ?_
        refine g_iast C (i := 2) rfl hg3 rfl (gdec dt_X3_behindRound 22 rfl) ?_
        refine g_aload_n C (gdec dt_X3_behindRound 23 rfl) (i := 0) rfl rfl ?_
        refine g_getr C (j := 1) kf_X3_37 rfl rfl (gdec dt_X3_behindRound 24 rfl) ?_
        refine g_iload_n C (gdec dt_X3_behindRound 25 rfl) (i := 2) rfl rfl ?_
        refine g_iald C (i := 1) rfl hg3 rfl (gdec dt_X3_behindRound 26 rfl) ?_
        refine g_iconst C (gdec dt_X3_behindRound 27 rfl) ic_1 ?_
        refine g_iadd C (gdec dt_X3_behindRound 28 rfl) ?_
        cases hf
        exact g_iret C rfl (gdec dt_X3_behindRound 29 rfl)
set_option maxHeartbeats 4000000 in
set_option maxRecDepth 100000 in
theorem c_X3_foundBy (l : Launch) (D : va_G) (cA ad : Nat → Nat) (hin : gInj ad shL.length) (w : GW) (x1 : Int32) (x2 : Int32) (q : Int32) (hf : F_X3_foundBy w x1 x2 = some q) : gMet l yX3_foundBy cX3_foundBy 3 (some .int) 3 162 D cA ad shL [.ref 3, .int x1, .int x2] w (some (.int q)) w := by
  refine g_entry (by decide) hin (Nat.le_of_ble_eq_true rfl) ?_
  intro p e s m args below meth c C
  unfold F_X3_foundBy at hf
  show gW p l e (gRm 3 162) s m args below meth c D cA ad shL 3 0 0 (gQ below D cA ad shL (some (.int q)) w args s) 0 [(0, .ref 3), (1, .int x1), (2, .int x2)] [] w
  refine g_iload_n C (gdec dt_X3_foundBy 0 rfl) (i := 1) rfl rfl ?_
  by_cases hc1 : x1 = (4 : Int32)
  · have hf := (if_pos hc1).symm.trans hf
    refine g_lookup C (tgt := 28) (off := 27) (gdec dt_X3_foundBy 1 rfl) (by decide) (by rw [hc1]; decide) (by decide) ?_
    refine g_aload_n C (gdec dt_X3_foundBy 2 rfl) (i := 0) rfl rfl ?_
    refine g_aload_n C (gdec dt_X3_foundBy 3 rfl) (i := 0) rfl rfl ?_
    refine g_iload_n C (gdec dt_X3_foundBy 4 rfl) (i := 2) rfl rfl ?_
    obtain ⟨q2, hq2, hf⟩ := Option.bind_eq_some_iff.mp hf
    refine g_invVs e_shL_shB_3 [.int x2] [.ref 3] C (c_X0_looksOf l D cA _ (gInj_sub em_e_shL_shB_3 (gCi C)) (gsub w e_shL_shB_3) x2 q2 hq2) em_e_shL_shB_3 (by decide) rfl kT_X0_looksOf kl_X3_113 kim_X0_looksOf kse_X0_looksOf rfl rfl (i := 3) rfl rfl ⟨by decide, by decide⟩ gk0 (Nat.le_of_ble_eq_true rfl) (gdec dt_X3_foundBy 5 rfl) rfl (st2 := [.int q2, .ref 3]) (w2 := w) rfl (gput_sub _ _) ?_
    obtain ⟨q3, hq3, hf⟩ := Option.bind_eq_some_iff.mp hf
    refine g_invVs e_shL_shB_3 [.int q2] [] C (c_X0_rankBy l D cA _ (gInj_sub em_e_shL_shB_3 (gCi C)) (gsub w e_shL_shB_3) q2 q3 hq3) em_e_shL_shB_3 (by decide) rfl kT_X0_rankBy kl_X3_116 kim_X0_rankBy kse_X0_rankBy rfl rfl (i := 3) rfl rfl ⟨by decide, by decide⟩ gk0 (Nat.le_of_ble_eq_true rfl) (gdec dt_X3_foundBy 6 rfl) rfl (st2 := [.int q3]) (w2 := w) rfl (gput_sub _ _) ?_
    refine g_iconst C (gdec dt_X3_foundBy 7 rfl) ic_1 ?_
    refine g_iadd C (gdec dt_X3_foundBy 8 rfl) ?_
    cases hf
    exact g_iret C rfl (gdec dt_X3_foundBy 9 rfl)
  replace hf := (if_neg hc1).symm.trans hf
  by_cases hc4 : x1 = (24 : Int32)
  · have hf := (if_pos hc4).symm.trans hf
    refine g_lookup C (tgt := 40) (off := 39) (gdec dt_X3_foundBy 1 rfl) (by decide) (by rw [hc4]; decide) (by decide) ?_
    refine g_aload_n C (gdec dt_X3_foundBy 10 rfl) (i := 0) rfl rfl ?_
    refine g_iload_n C (gdec dt_X3_foundBy 11 rfl) (i := 2) rfl rfl ?_
    obtain ⟨q5, hq5, hf⟩ := Option.bind_eq_some_iff.mp hf
    refine g_invVs e_shL_shB_3 [.int x2] [] C (c_X0_looksOf l D cA _ (gInj_sub em_e_shL_shB_3 (gCi C)) (gsub w e_shL_shB_3) x2 q5 hq5) em_e_shL_shB_3 (by decide) rfl kT_X0_looksOf kl_X3_113 kim_X0_looksOf kse_X0_looksOf rfl rfl (i := 3) rfl rfl ⟨by decide, by decide⟩ gk0 (Nat.le_of_ble_eq_true rfl) (gdec dt_X3_foundBy 12 rfl) rfl (st2 := [.int q5]) (w2 := w) rfl (gput_sub _ _) ?_
    cases hf
    exact g_iret C rfl (gdec dt_X3_foundBy 13 rfl)
  replace hf := (if_neg hc4).symm.trans hf
  refine g_lookup C (tgt := 46) (off := 45) (gdec dt_X3_foundBy 1 rfl) (by decide) ?_ (by decide) ?_
  · show Op.lookupswitch.offset [(4, 27), (24, 39)] (45) _ = _
    rw [lv_osw hc1 (by decide), lv_osw hc4 (by decide)]
    rfl
  refine g_aload_n C (gdec dt_X3_foundBy 14 rfl) (i := 0) rfl rfl ?_
  refine g_geti C kf_X3_119 rfl rfl (gdec dt_X3_foundBy 15 rfl) ?_
  cases hf
  exact g_iret C rfl (gdec dt_X3_foundBy 16 rfl)
set_option maxHeartbeats 4000000 in
set_option maxRecDepth 100000 in
theorem c_X3_holds (l : Launch) (D : va_G) (cA ad : Nat → Nat) (hin : gInj ad shL.length) (w : GW) (x2 : Int32) (q : Int32) (hf : F_X3_holds w x2 = some q) : gMet l yX3_holds cX3_holds 4 (some .boolean) 4 184 D cA ad shL [.ref 3, .ref 16, .int x2] w (some (.int q)) w := by
  refine g_entry (by decide) hin (Nat.le_of_ble_eq_true rfl) ?_
  intro p e s m args below meth c C
  unfold F_X3_holds at hf
  show gW p l e (gRm 4 184) s m args below meth c D cA ad shL 4 0 0 (gQ below D cA ad shL (some (.int q)) w args s) 0 [(0, .ref 3), (1, .ref 16), (2, .int x2)] [] w
  refine g_aload_n C (gdec dt_X3_holds 0 rfl) (i := 0) rfl rfl ?_
  refine g_aload_n C (gdec dt_X3_holds 1 rfl) (i := 1) rfl rfl ?_
  refine g_getr C (j := 21) kf_X3_100 rfl rfl (gdec dt_X3_holds 2 rfl) ?_
  refine g_iload_n C (gdec dt_X3_holds 3 rfl) (i := 2) rfl rfl ?_
  obtain ⟨hg1, hf⟩ := gif hf
  refine g_iald C (i := 21) rfl hg1 rfl (gdec dt_X3_holds 4 rfl) ?_
  refine g_aload_n C (gdec dt_X3_holds 5 rfl) (i := 1) rfl rfl ?_
  refine g_getr C (j := 18) kf_X3_103 rfl rfl (gdec dt_X3_holds 6 rfl) ?_
  refine g_iload_n C (gdec dt_X3_holds 7 rfl) (i := 2) rfl rfl ?_
  refine g_iald C (i := 18) rfl hg1 rfl (gdec dt_X3_holds 8 rfl) ?_
  obtain ⟨q2, hq2, hf⟩ := Option.bind_eq_some_iff.mp hf
  refine g_invS [.ref 3, .int (w.1 21 x2.toNatClampNeg), .int (w.1 18 x2.toNatClampNeg)] [] C (c_X3_foundBy l D cA _ (gCi C) w (w.1 21 x2.toNatClampNeg) (w.1 18 x2.toNatClampNeg) q2 hq2) kT_X3_foundBy kl_X3_106 kst_X3_foundBy rfl rfl ⟨by decide, by decide⟩ gk0 (Nat.le_of_ble_eq_true rfl) (gdec dt_X3_holds 9 rfl) rfl (st2 := [.int q2]) rfl ?_
  refine g_istore_n C (gdec dt_X3_holds 10 rfl) (i := 3) rfl (by decide) (lo2 := [(3, .int q2), (0, .ref 3), (1, .ref 16), (2, .int x2)]) rfl ?_
  refine g_aload_n C (gdec dt_X3_holds 11 rfl) (i := 1) rfl rfl ?_
  refine g_getr C (j := 22) kf_X3_110 rfl rfl (gdec dt_X3_holds 12 rfl) ?_
  refine g_iload_n C (gdec dt_X3_holds 13 rfl) (i := 2) rfl rfl ?_
  refine g_iald C (i := 22) rfl hg1 rfl (gdec dt_X3_holds 14 rfl) ?_
  by_cases hc3 : (w.1 22 x2.toNatClampNeg) = (60 : Int32)
  · have hf := (if_pos hc3).symm.trans hf
    refine g_lookup C (tgt := 48) (off := 25) (gdec dt_X3_holds 15 rfl) (by decide) (by rw [hc3]; decide) (by decide) ?_
    refine g_iload_n C (gdec dt_X3_holds 16 rfl) (i := 3) rfl rfl ?_
    refine g_aload_n C (gdec dt_X3_holds 17 rfl) (i := 1) rfl rfl ?_
    refine g_getr C (j := 20) kf_X3_97 rfl rfl (gdec dt_X3_holds 18 rfl) ?_
    refine g_iload_n C (gdec dt_X3_holds 19 rfl) (i := 2) rfl rfl ?_
    refine g_iald C (i := 20) rfl hg1 rfl (gdec dt_X3_holds 20 rfl) ?_
    refine g_icmp_ge C (tgt := 62) (gdec dt_X3_holds 21 rfl) (by decide) (fun hc4 => ?_) (fun hc4 => ?_)
    · have hf := (if_pos hc4).symm.trans hf
      refine g_iconst C (gdec dt_X3_holds 24 rfl) ic_0 ?_
      cases hf
      exact g_zret C (Or.inl rfl) rfl (gdec dt_X3_holds 25 rfl)
    · have hf := (if_neg hc4).symm.trans hf
      refine g_iconst C (gdec dt_X3_holds 22 rfl) ic_1 ?_
      refine g_goto C (tgt := 63) (gdec dt_X3_holds 23 rfl) (by decide) ?_
      cases hf
      exact g_zret C (Or.inr rfl) rfl (gdec dt_X3_holds 25 rfl)
  replace hf := (if_neg hc3).symm.trans hf
  by_cases hc5 : (w.1 22 x2.toNatClampNeg) = (62 : Int32)
  · have hf := (if_pos hc5).symm.trans hf
    refine g_lookup C (tgt := 64) (off := 41) (gdec dt_X3_holds 15 rfl) (by decide) (by rw [hc5]; decide) (by decide) ?_
    refine g_iload_n C (gdec dt_X3_holds 26 rfl) (i := 3) rfl rfl ?_
    refine g_aload_n C (gdec dt_X3_holds 27 rfl) (i := 1) rfl rfl ?_
    refine g_getr C (j := 20) kf_X3_97 rfl rfl (gdec dt_X3_holds 28 rfl) ?_
    refine g_iload_n C (gdec dt_X3_holds 29 rfl) (i := 2) rfl rfl ?_
    refine g_iald C (i := 20) rfl hg1 rfl (gdec dt_X3_holds 30 rfl) ?_
    refine g_icmp_le C (tgt := 78) (gdec dt_X3_holds 31 rfl) (by decide) (fun hc6 => ?_) (fun hc6 => ?_)
    · have hf := (if_pos hc6).symm.trans hf
      refine g_iconst C (gdec dt_X3_holds 34 rfl) ic_0 ?_
      cases hf
      exact g_zret C (Or.inl rfl) rfl (gdec dt_X3_holds 35 rfl)
    · have hf := (if_neg hc6).symm.trans hf
      refine g_iconst C (gdec dt_X3_holds 32 rfl) ic_1 ?_
      refine g_goto C (tgt := 79) (gdec dt_X3_holds 33 rfl) (by decide) ?_
      cases hf
      exact g_zret C (Or.inr rfl) rfl (gdec dt_X3_holds 35 rfl)
  replace hf := (if_neg hc5).symm.trans hf
  refine g_lookup C (tgt := 80) (off := 57) (gdec dt_X3_holds 15 rfl) (by decide) ?_ (by decide) ?_
  · show Op.lookupswitch.offset [(60, 25), (62, 41)] (57) _ = _
    rw [lv_osw hc3 (by decide), lv_osw hc5 (by decide)]
    rfl
  refine g_iload_n C (gdec dt_X3_holds 36 rfl) (i := 3) rfl rfl ?_
  refine g_aload_n C (gdec dt_X3_holds 37 rfl) (i := 1) rfl rfl ?_
  refine g_getr C (j := 20) kf_X3_97 rfl rfl (gdec dt_X3_holds 38 rfl) ?_
  refine g_iload_n C (gdec dt_X3_holds 39 rfl) (i := 2) rfl rfl ?_
  refine g_iald C (i := 20) rfl hg1 rfl (gdec dt_X3_holds 40 rfl) ?_
  refine g_icmp_ne C (tgt := 94) (gdec dt_X3_holds 41 rfl) (by decide) (fun hc7 => ?_) (fun hc7 => ?_)
  · have hf := (if_neg hc7).symm.trans hf
    refine g_iconst C (gdec dt_X3_holds 44 rfl) ic_0 ?_
    cases hf
    exact g_zret C (Or.inl rfl) rfl (gdec dt_X3_holds 45 rfl)
  · have hf := (if_pos hc7).symm.trans hf
    refine g_iconst C (gdec dt_X3_holds 42 rfl) ic_1 ?_
    refine g_goto C (tgt := 95) (gdec dt_X3_holds 43 rfl) (by decide) ?_
    cases hf
    exact g_zret C (Or.inr rfl) rfl (gdec dt_X3_holds 45 rfl)
set_option maxHeartbeats 4000000 in
set_option maxRecDepth 100000 in
theorem c_X3_enterLoop (l : Launch) (D : va_G) (cA ad : Nat → Nat) (hin : gInj ad shL.length) (w : GW) (x2 : Int32) (q : GW) (hf : F_X3_enterLoop x2 w = some q) : gMet l yX3_enterLoop cX3_enterLoop 3 none 3 162 D cA ad shL [.ref 0, .ref 16, .int x2] w none q := by
  refine g_entry (by decide) hin (Nat.le_of_ble_eq_true rfl) ?_
  intro p e s m args below meth c C
  unfold F_X3_enterLoop at hf
  show gW p l e (gRm 3 162) s m args below meth c D cA ad shL 3 0 0 (gQ below D cA ad shL none q args s) 0 [(0, .ref 0), (1, .ref 16), (2, .int x2)] [] w
  refine g_aload_n C (gdec dt_X3_enterLoop 0 rfl) (i := 0) rfl rfl ?_
  refine g_geti C kf_X3_34 rfl rfl (gdec dt_X3_enterLoop 1 rfl) ?_
  refine g_if_lt C (tgt := 63) (gdec dt_X3_enterLoop 2 rfl) (by decide) (fun hc1 => ?_) (fun hc1 => ?_)
  · have hf := (if_pos hc1).symm.trans hf
    cases hf
    exact g_vret C rfl (gdec dt_X3_enterLoop 37 rfl)
  · have hf := (if_neg hc1).symm.trans hf
    refine g_aload_n C (gdec dt_X3_enterLoop 3 rfl) (i := 0) rfl rfl ?_
    refine g_geti C kf_X3_34 rfl rfl (gdec dt_X3_enterLoop 4 rfl) ?_
    refine g_iconst C (gdec dt_X3_enterLoop 5 rfl) ic_3 ?_
    refine g_icmp_ge C (tgt := 63) (gdec dt_X3_enterLoop 6 rfl) (by decide) (fun hc2 => ?_) (fun hc2 => ?_)
    · have hf := (if_pos hc2).symm.trans hf
      cases hf
      exact g_vret C rfl (gdec dt_X3_enterLoop 37 rfl)
    · have hf := (if_neg hc2).symm.trans hf
      refine g_aload_n C (gdec dt_X3_enterLoop 7 rfl) (i := 1) rfl rfl ?_
      refine g_iload_n C (gdec dt_X3_enterLoop 8 rfl) (i := 2) rfl rfl ?_
      obtain ⟨q3, hq3, hf⟩ := Option.bind_eq_some_iff.mp hf
      refine g_invVs e_shL_shP_16 [.int x2] [] C (c_X5_closeOf l D cA _ (gInj_sub em_e_shL_shP_16 (gCi C)) (gsub w e_shL_shP_16) x2 q3 hq3) em_e_shL_shP_16 (by decide) rfl kT_X5_closeOf kl_X3_70 kim_X5_closeOf kse_X5_closeOf rfl rfl (i := 16) rfl rfl ⟨by decide, by decide⟩ gk0 (Nat.le_of_ble_eq_true rfl) (gdec dt_X3_enterLoop 9 rfl) rfl (st2 := [.int q3]) (w2 := w) rfl (gput_sub _ _) ?_
      refine g_iload_n C (gdec dt_X3_enterLoop 10 rfl) (i := 2) rfl rfl ?_
      refine g_iconst C (gdec dt_X3_enterLoop 11 rfl) ic_1 ?_
      refine g_iadd C (gdec dt_X3_enterLoop 12 rfl) ?_
      refine g_icmp_le C (tgt := 63) (gdec dt_X3_enterLoop 13 rfl) (by decide) (fun hc4 => ?_) (fun hc4 => ?_)
      · have hf := (if_pos hc4).symm.trans hf
        cases hf
        exact g_vret C rfl (gdec dt_X3_enterLoop 37 rfl)
      · have hf := (if_neg hc4).symm.trans hf
        refine g_aload_n C (gdec dt_X3_enterLoop 14 rfl) (i := 0) rfl rfl ?_
        refine g_getr C (j := 1) kf_X3_37 rfl rfl (gdec dt_X3_enterLoop 15 rfl) ?_
        refine g_aload_n C (gdec dt_X3_enterLoop 16 rfl) (i := 0) rfl rfl ?_
        refine g_geti C kf_X3_34 rfl rfl (gdec dt_X3_enterLoop 17 rfl) ?_
        refine g_iload_n C (gdec dt_X3_enterLoop 18 rfl) (i := 2) rfl rfl ?_
        obtain ⟨hg5, hf⟩ := gif hf
        refine g_iast C (i := 1) rfl hg5 rfl (gdec dt_X3_enterLoop 19 rfl) ?_
        refine g_aload_n C (gdec dt_X3_enterLoop 20 rfl) (i := 0) rfl rfl ?_
        refine g_getr C (j := 2) kf_X3_41 rfl rfl (gdec dt_X3_enterLoop 21 rfl) ?_
        refine g_aload_n C (gdec dt_X3_enterLoop 22 rfl) (i := 0) rfl rfl ?_
        refine g_getiv C kf_X3_34 rfl rfl (gdec dt_X3_enterLoop 23 rfl) (v := (w.1 0 7)) rfl ?_
        refine g_aload_n C (gdec dt_X3_enterLoop 24 rfl) (i := 1) rfl rfl ?_
        refine g_getr C (j := 20) kf_X3_97 rfl rfl (gdec dt_X3_enterLoop 25 rfl) ?_
        refine g_iload_n C (gdec dt_X3_enterLoop 26 rfl) (i := 2) rfl rfl ?_
        obtain ⟨hg6, hf⟩ := gif hf
        refine g_iald C (i := 20) rfl hg6 rfl (gdec dt_X3_enterLoop 27 rfl) ?_
        refine g_iconst C (gdec dt_X3_enterLoop 28 rfl) ic_1 ?_
        refine g_isub C (gdec dt_X3_enterLoop 29 rfl) ?_
        refine g_iast C (i := 2) rfl hg5 rfl (gdec dt_X3_enterLoop 30 rfl) ?_
        refine g_aload_n C (gdec dt_X3_enterLoop 31 rfl) (i := 0) rfl rfl ?_
        refine g_dup C (gdec dt_X3_enterLoop 32 rfl) rfl ?_
        refine g_getiv C kf_X3_34 rfl rfl (gdec dt_X3_enterLoop 33 rfl) (v := (w.1 0 7)) rfl ?_
        refine g_iconst C (gdec dt_X3_enterLoop 34 rfl) ic_1 ?_
        refine g_iadd C (gdec dt_X3_enterLoop 35 rfl) ?_
        refine g_puti C kf_X3_34 rfl rfl (gdec dt_X3_enterLoop 36 rfl) ?_
        cases hf
        exact g_vret C rfl (gdec dt_X3_enterLoop 37 rfl)
set_option maxHeartbeats 4000000 in
set_option maxRecDepth 100000 in
theorem c_X3_drawBy (l : Launch) (D : va_G) (cA ad : Nat → Nat) (hin : gInj ad shL.length) (w : GW) (x1 : Int32) (q : (Int32 × GW)) (hf : F_X3_drawBy x1 w = some q) : gMet l yX3_drawBy cX3_drawBy 2 (some .int) 1 120 D cA ad shL [.ref 0, .int x1] w (some (.int q.1)) q.2 := by
  refine g_entry (by decide) hin (Nat.le_of_ble_eq_true rfl) ?_
  intro p e s m args below meth c C
  unfold F_X3_drawBy at hf
  show gW p l e (gRm 1 120) s m args below meth c D cA ad shL 2 0 0 (gQ below D cA ad shL (some (.int q.1)) q.2 args s) 0 [(0, .ref 0), (1, .int x1)] [] w
  refine g_aload_n C (gdec dt_X3_drawBy 0 rfl) (i := 0) rfl rfl ?_
  refine g_aload_n C (gdec dt_X3_drawBy 1 rfl) (i := 0) rfl rfl ?_
  refine g_geti C kf_X3_31 rfl rfl (gdec dt_X3_drawBy 2 rfl) ?_
  refine g_sipush C (gdec dt_X3_drawBy 3 rfl) sc_3253 ?_
  refine g_imul C (gdec dt_X3_drawBy 4 rfl) ?_
  refine g_sipush C (gdec dt_X3_drawBy 5 rfl) sc_11471 ?_
  refine g_iadd C (gdec dt_X3_drawBy 6 rfl) ?_
  refine g_ldc C kk_X3_159 (gdec dt_X3_drawBy 7 rfl) ?_
  refine g_irem C (gdec dt_X3_drawBy 8 rfl) (by decide) ?_
  refine g_puti C kf_X3_31 rfl rfl (gdec dt_X3_drawBy 9 rfl) ?_
  refine g_iload_n C (gdec dt_X3_drawBy 10 rfl) (i := 1) rfl rfl ?_
  refine g_if_le C (tgt := 35) (gdec dt_X3_drawBy 11 rfl) (by decide) (fun hc1 => ?_) (fun hc1 => ?_)
  · have hf := (if_pos hc1).symm.trans hf
    refine g_iconst C (gdec dt_X3_drawBy 19 rfl) ic_0 ?_
    cases hf
    exact g_iret C rfl (gdec dt_X3_drawBy 20 rfl)
  · have hf := (if_neg hc1).symm.trans hf
    refine g_aload_n C (gdec dt_X3_drawBy 12 rfl) (i := 0) rfl rfl ?_
    refine g_getiv C kf_X3_31 rfl rfl (gdec dt_X3_drawBy 13 rfl) (v := ((((w.1 0 6) * (3253 : Int32)) + (11471 : Int32)) - (((w.1 0 6) * (3253 : Int32)) + (11471 : Int32)) / (65536 : Int32) * (65536 : Int32))) rfl ?_
    refine g_bipush C (gdec dt_X3_drawBy 14 rfl) bc_8 ?_
    refine g_idiv C (gdec dt_X3_drawBy 15 rfl) (by decide) ?_
    refine g_iload_n C (gdec dt_X3_drawBy 16 rfl) (i := 1) rfl rfl ?_
    obtain ⟨hz2, hf⟩ := gifn hf
    refine g_irem C (gdec dt_X3_drawBy 17 rfl) hz2 ?_
    refine g_goto C (tgt := 36) (gdec dt_X3_drawBy 18 rfl) (by decide) ?_
    cases hf
    exact g_iret C rfl (gdec dt_X3_drawBy 20 rfl)
set_option maxHeartbeats 4000000 in
set_option maxRecDepth 100000 in
theorem c_X3_dustOrWait (l : Launch) (D : va_G) (cA ad : Nat → Nat) (hin : gInj ad shL.length) (w : GW) (q : (Int32 × GW)) (hf : F_X3_dustOrWait w = some q) : gMet l yX3_dustOrWait cX3_dustOrWait 4 (some .boolean) 5 211 D cA ad shL [.ref 0, .ref 3] w (some (.int q.1)) q.2 := by
  refine g_entry (by decide) hin (Nat.le_of_ble_eq_true rfl) ?_
  intro p e s m args below meth c C
  unfold F_X3_dustOrWait at hf
  show gW p l e (gRm 5 211) s m args below meth c D cA ad shL 4 0 0 (gQ below D cA ad shL (some (.int q.1)) q.2 args s) 0 [(0, .ref 0), (1, .ref 3)] [] w
  refine g_aload_n C (gdec dt_X3_dustOrWait 0 rfl) (i := 1) rfl rfl ?_
  refine g_geti C kf_X3_150 rfl rfl (gdec dt_X3_dustOrWait 1 rfl) ?_
  refine g_if_ne C (tgt := 9) (gdec dt_X3_dustOrWait 2 rfl) (by decide) (fun hc1 => ?_) (fun hc1 => ?_)
  · have hf := (if_neg hc1).symm.trans hf
    refine g_aload_n C (gdec dt_X3_dustOrWait 5 rfl) (i := 0) rfl rfl ?_
    refine g_aload_n C (gdec dt_X3_dustOrWait 6 rfl) (i := 1) rfl rfl ?_
    refine g_geti C kf_X3_150 rfl rfl (gdec dt_X3_dustOrWait 7 rfl) ?_
    obtain ⟨q2, hq2, hf⟩ := Option.bind_eq_some_iff.mp hf
    refine g_invV [.int (w.1 3 5)] [] C (c_X3_drawBy l D cA _ (gCi C) w (w.1 3 5) q2 hq2) kT_X3_drawBy kl_X3_153 kim_X3_drawBy kse_X3_drawBy rfl rfl (i := 0) rfl rfl ⟨by decide, by decide⟩ gk0 (Nat.le_of_ble_eq_true rfl) (gdec dt_X3_dustOrWait 8 rfl) rfl (st2 := [.int q2.1]) rfl ?_
    refine g_istore_n C (gdec dt_X3_dustOrWait 9 rfl) (i := 2) rfl (by decide) (lo2 := [(2, .int q2.1), (0, .ref 0), (1, .ref 3)]) rfl ?_
    refine g_aload_n C (gdec dt_X3_dustOrWait 10 rfl) (i := 0) rfl rfl ?_
    refine g_bipush C (gdec dt_X3_dustOrWait 11 rfl) bc_16 ?_
    obtain ⟨q3, hq3, hf⟩ := Option.bind_eq_some_iff.mp hf
    refine g_invV [.int (16 : Int32)] [] C (c_X3_drawBy l D cA _ (gCi C) q2.2 (16 : Int32) q3 hq3) kT_X3_drawBy kl_X3_153 kim_X3_drawBy kse_X3_drawBy rfl rfl (i := 0) rfl rfl ⟨by decide, by decide⟩ gk0 (Nat.le_of_ble_eq_true rfl) (gdec dt_X3_dustOrWait 12 rfl) rfl (st2 := [.int q3.1]) rfl ?_
    refine g_istore_n C (gdec dt_X3_dustOrWait 13 rfl) (i := 3) rfl (by decide) (lo2 := [(3, .int q3.1), (2, .int q2.1), (0, .ref 0), (1, .ref 3)]) rfl ?_
    refine g_iload_n C (gdec dt_X3_dustOrWait 14 rfl) (i := 3) rfl rfl ?_
    refine g_aload_n C (gdec dt_X3_dustOrWait 15 rfl) (i := 1) rfl rfl ?_
    refine g_geti C kf_X3_156 rfl rfl (gdec dt_X3_dustOrWait 16 rfl) ?_
    refine g_icmp_ge C (tgt := 48) (gdec dt_X3_dustOrWait 17 rfl) (by decide) (fun hc4 => ?_) (fun hc4 => ?_)
    · have hf := (if_pos hc4).symm.trans hf
      refine g_aload_n C (gdec dt_X3_dustOrWait 27 rfl) (i := 1) rfl rfl ?_
      refine g_iconst C (gdec dt_X3_dustOrWait 28 rfl) ic_1 ?_
      obtain ⟨q5, hq5, hf⟩ := Option.bind_eq_some_iff.mp hf
      refine g_invVs e_shL_shB_3 [.int (1 : Int32)] [] C (c_X0_passYears l D cA _ (gInj_sub em_e_shL_shB_3 (gCi C)) (gsub q3.2 e_shL_shB_3) (1 : Int32) q5 hq5) em_e_shL_shB_3 (by decide) rfl kT_X0_passYears kl_X3_122 kim_X0_passYears kse_X0_passYears rfl rfl (i := 3) rfl rfl ⟨by decide, by decide⟩ gk0 (Nat.le_of_ble_eq_true rfl) (gdec dt_X3_dustOrWait 29 rfl) rfl (st2 := [.int q5.1]) (w2 := (gput q3.2 e_shL_shB_3 q5.2)) rfl rfl ?_
      refine g_iconst C (gdec dt_X3_dustOrWait 30 rfl) ic_m1 ?_
      refine g_icmp_eq C (tgt := 61) (gdec dt_X3_dustOrWait 31 rfl) (by decide) (fun hc6 => ?_) (fun hc6 => ?_)
      · have hf := (if_pos hc6).symm.trans hf
        refine g_iconst C (gdec dt_X3_dustOrWait 34 rfl) ic_0 ?_
        cases hf
        exact g_zret C (Or.inl rfl) rfl (gdec dt_X3_dustOrWait 35 rfl)
      · have hf := (if_neg hc6).symm.trans hf
        refine g_iconst C (gdec dt_X3_dustOrWait 32 rfl) ic_1 ?_
        refine g_goto C (tgt := 62) (gdec dt_X3_dustOrWait 33 rfl) (by decide) ?_
        cases hf
        exact g_zret C (Or.inr rfl) rfl (gdec dt_X3_dustOrWait 35 rfl)
    · have hf := (if_neg hc4).symm.trans hf
      refine g_aload_n C (gdec dt_X3_dustOrWait 18 rfl) (i := 1) rfl rfl ?_
      refine g_iload_n C (gdec dt_X3_dustOrWait 19 rfl) (i := 2) rfl rfl ?_
      obtain ⟨q7, hq7, hf⟩ := Option.bind_eq_some_iff.mp hf
      refine g_invVs e_shL_shB_3 [.int q2.1] [] C (c_X0_wipe l D cA _ (gInj_sub em_e_shL_shB_3 (gCi C)) (gsub q3.2 e_shL_shB_3) q2.1 q7 hq7) em_e_shL_shB_3 (by decide) rfl kT_X0_wipe kl_X3_138 kim_X0_wipe kse_X0_wipe rfl rfl (i := 3) rfl rfl ⟨by decide, by decide⟩ gk0 (Nat.le_of_ble_eq_true rfl) (gdec dt_X3_dustOrWait 20 rfl) rfl (st2 := [.int q7.1]) (w2 := (gput q3.2 e_shL_shB_3 q7.2)) rfl rfl ?_
      refine g_iconst C (gdec dt_X3_dustOrWait 21 rfl) ic_m1 ?_
      refine g_icmp_eq C (tgt := 46) (gdec dt_X3_dustOrWait 22 rfl) (by decide) (fun hc8 => ?_) (fun hc8 => ?_)
      · have hf := (if_pos hc8).symm.trans hf
        refine g_iconst C (gdec dt_X3_dustOrWait 25 rfl) ic_0 ?_
        cases hf
        exact g_zret C (Or.inl rfl) rfl (gdec dt_X3_dustOrWait 26 rfl)
      · have hf := (if_neg hc8).symm.trans hf
        refine g_iconst C (gdec dt_X3_dustOrWait 23 rfl) ic_1 ?_
        refine g_goto C (tgt := 47) (gdec dt_X3_dustOrWait 24 rfl) (by decide) ?_
        cases hf
        exact g_zret C (Or.inr rfl) rfl (gdec dt_X3_dustOrWait 26 rfl)
  · have hf := (if_pos hc1).symm.trans hf
    refine g_iconst C (gdec dt_X3_dustOrWait 3 rfl) ic_0 ?_
    cases hf
    exact g_zret C (Or.inl rfl) rfl (gdec dt_X3_dustOrWait 4 rfl)
set_option maxHeartbeats 4000000 in
set_option maxRecDepth 100000 in
theorem c_X3_payClients (l : Launch) (D : va_G) (cA ad : Nat → Nat) (hin : gInj ad shL.length) (w : GW) (q : (Int32 × GW)) (hf : F_X3_payClients w = some q) : gMet l yX3_payClients cX3_payClients 3 (some .boolean) 3 171 D cA ad shL [.ref 0, .ref 3] w (some (.int q.1)) q.2 := by
  refine g_entry (by decide) hin (Nat.le_of_ble_eq_true rfl) ?_
  intro p e s m args below meth c C
  unfold F_X3_payClients at hf
  show gW p l e (gRm 3 171) s m args below meth c D cA ad shL 3 0 0 (gQ below D cA ad shL (some (.int q.1)) q.2 args s) 0 [(0, .ref 0), (1, .ref 3)] [] w
  refine g_aload_n C (gdec dt_X3_payClients 0 rfl) (i := 1) rfl rfl ?_
  obtain ⟨q1, hq1, hf⟩ := Option.bind_eq_some_iff.mp hf
  refine g_invVs e_shL_shB_3 [] [] C (c_X0_payComing l D cA _ (gInj_sub em_e_shL_shB_3 (gCi C)) (gsub w e_shL_shB_3)  q1 hq1) em_e_shL_shB_3 (by decide) rfl kT_X0_payComing kl_X3_147 kim_X0_payComing kse_X0_payComing rfl rfl (i := 3) rfl rfl ⟨by decide, by decide⟩ gk0 (Nat.le_of_ble_eq_true rfl) (gdec dt_X3_payClients 1 rfl) rfl (st2 := [.int q1.1]) (w2 := (gput w e_shL_shB_3 q1.2)) rfl rfl ?_
  refine g_istore_n C (gdec dt_X3_payClients 2 rfl) (i := 2) rfl (by decide) (lo2 := [(2, .int q1.1), (0, .ref 0), (1, .ref 3)]) rfl ?_
  refine g_iload_n C (gdec dt_X3_payClients 3 rfl) (i := 2) rfl rfl ?_
  refine g_iconst C (gdec dt_X3_payClients 4 rfl) ic_m1 ?_
  refine g_icmp_ne C (tgt := 12) (gdec dt_X3_payClients 5 rfl) (by decide) (fun hc2 => ?_) (fun hc2 => ?_)
  · have hf := (if_neg hc2).symm.trans hf
    refine g_aload_n C (gdec dt_X3_payClients 8 rfl) (i := 0) rfl rfl ?_
    refine g_dup C (gdec dt_X3_payClients 9 rfl) rfl ?_
    refine g_getiv C kf_X3_24 rfl rfl (gdec dt_X3_payClients 10 rfl) (v := (w.1 0 4)) rfl ?_
    refine g_iload_n C (gdec dt_X3_payClients 11 rfl) (i := 2) rfl rfl ?_
    refine g_iadd C (gdec dt_X3_payClients 12 rfl) ?_
    refine g_puti C kf_X3_24 rfl rfl (gdec dt_X3_payClients 13 rfl) ?_
    refine g_iconst C (gdec dt_X3_payClients 14 rfl) ic_1 ?_
    cases hf
    exact g_zret C (Or.inr rfl) rfl (gdec dt_X3_payClients 15 rfl)
  · have hf := (if_pos hc2).symm.trans hf
    refine g_iconst C (gdec dt_X3_payClients 6 rfl) ic_0 ?_
    cases hf
    exact g_zret C (Or.inl rfl) rfl (gdec dt_X3_payClients 7 rfl)
set_option maxHeartbeats 4000000 in
set_option maxRecDepth 100000 in
theorem c_X3_act (l : Launch) (D : va_G) (cA ad : Nat → Nat) (hin : gInj ad shL.length) (w : GW) (x3 : Int32) (q : (Int32 × GW)) (hf : F_X3_act x3 w = some q) : gMet l yX3_act cX3_act 6 (some .boolean) 5 211 D cA ad shL [.ref 0, .ref 3, .ref 16, .int x3] w (some (.int q.1)) q.2 := by
  refine g_entry (by decide) hin (Nat.le_of_ble_eq_true rfl) ?_
  intro p e s m args below meth c C
  unfold F_X3_act at hf
  show gW p l e (gRm 5 211) s m args below meth c D cA ad shL 6 0 0 (gQ below D cA ad shL (some (.int q.1)) q.2 args s) 0 [(0, .ref 0), (1, .ref 3), (2, .ref 16), (3, .int x3)] [] w
  refine g_aload_n C (gdec dt_X3_act 0 rfl) (i := 2) rfl rfl ?_
  refine g_getr C (j := 18) kf_X3_103 rfl rfl (gdec dt_X3_act 1 rfl) ?_
  refine g_iload_n C (gdec dt_X3_act 2 rfl) (i := 3) rfl rfl ?_
  obtain ⟨hg1, hf⟩ := gif hf
  refine g_iald C (i := 18) rfl hg1 rfl (gdec dt_X3_act 3 rfl) ?_
  refine g_istore C (gdec dt_X3_act 4 rfl) (by decide) (lo2 := [(4, .int (w.1 18 x3.toNatClampNeg)), (0, .ref 0), (1, .ref 3), (2, .ref 16), (3, .int x3)]) rfl ?_
  refine g_aload_n C (gdec dt_X3_act 5 rfl) (i := 2) rfl rfl ?_
  refine g_getr C (j := 20) kf_X3_97 rfl rfl (gdec dt_X3_act 6 rfl) ?_
  refine g_iload_n C (gdec dt_X3_act 7 rfl) (i := 3) rfl rfl ?_
  refine g_iald C (i := 20) rfl hg1 rfl (gdec dt_X3_act 8 rfl) ?_
  refine g_istore C (gdec dt_X3_act 9 rfl) (by decide) (lo2 := [(5, .int (w.1 20 x3.toNatClampNeg)), (4, .int (w.1 18 x3.toNatClampNeg)), (0, .ref 0), (1, .ref 3), (2, .ref 16), (3, .int x3)]) rfl ?_
  refine g_aload_n C (gdec dt_X3_act 10 rfl) (i := 2) rfl rfl ?_
  refine g_getr C (j := 17) kf_X3_79 rfl rfl (gdec dt_X3_act 11 rfl) ?_
  refine g_iload_n C (gdec dt_X3_act 12 rfl) (i := 3) rfl rfl ?_
  refine g_iald C (i := 17) rfl hg1 rfl (gdec dt_X3_act 13 rfl) ?_
  by_cases hc2 : (w.1 17 x3.toNatClampNeg) = (15 : Int32)
  · have hf := (if_pos hc2).symm.trans hf
    refine g_tableIn C (tgt := 60) (off := 38) (gdec dt_X3_act 14 rfl) (by rw [hc2]; decide) (by rw [hc2]; decide) (by rw [hc2]; decide) (by decide) ?_
    refine g_aload_n C (gdec dt_X3_act 15 rfl) (i := 1) rfl rfl ?_
    refine g_iload C (gdec dt_X3_act 16 rfl) rfl ?_
    obtain ⟨q3, hq3, hf⟩ := Option.bind_eq_some_iff.mp hf
    refine g_invVs e_shL_shB_3 [.int (w.1 20 x3.toNatClampNeg)] [] C (c_X0_passYears l D cA _ (gInj_sub em_e_shL_shB_3 (gCi C)) (gsub w e_shL_shB_3) (w.1 20 x3.toNatClampNeg) q3 hq3) em_e_shL_shB_3 (by decide) rfl kT_X0_passYears kl_X3_122 kim_X0_passYears kse_X0_passYears rfl rfl (i := 3) rfl rfl ⟨by decide, by decide⟩ gk0 (Nat.le_of_ble_eq_true rfl) (gdec dt_X3_act 17 rfl) rfl (st2 := [.int q3.1]) (w2 := (gput w e_shL_shB_3 q3.2)) rfl rfl ?_
    refine g_iconst C (gdec dt_X3_act 18 rfl) ic_m1 ?_
    refine g_icmp_eq C (tgt := 74) (gdec dt_X3_act 19 rfl) (by decide) (fun hc4 => ?_) (fun hc4 => ?_)
    · have hf := (if_pos hc4).symm.trans hf
      refine g_iconst C (gdec dt_X3_act 22 rfl) ic_0 ?_
      cases hf
      exact g_zret C (Or.inl rfl) rfl (gdec dt_X3_act 23 rfl)
    · have hf := (if_neg hc4).symm.trans hf
      refine g_iconst C (gdec dt_X3_act 20 rfl) ic_1 ?_
      refine g_goto C (tgt := 75) (gdec dt_X3_act 21 rfl) (by decide) ?_
      cases hf
      exact g_zret C (Or.inr rfl) rfl (gdec dt_X3_act 23 rfl)
  replace hf := (if_neg hc2).symm.trans hf
  by_cases hc5 : (w.1 17 x3.toNatClampNeg) = (16 : Int32)
  · have hf := (if_pos hc5).symm.trans hf
    refine g_tableIn C (tgt := 76) (off := 54) (gdec dt_X3_act 14 rfl) (by rw [hc5]; decide) (by rw [hc5]; decide) (by rw [hc5]; decide) (by decide) ?_
    refine g_aload_n C (gdec dt_X3_act 24 rfl) (i := 1) rfl rfl ?_
    refine g_iload C (gdec dt_X3_act 25 rfl) rfl ?_
    refine g_iload C (gdec dt_X3_act 26 rfl) rfl ?_
    obtain ⟨q6, hq6, hf⟩ := Option.bind_eq_some_iff.mp hf
    refine g_invVs e_shL_shB_3 [.int (w.1 18 x3.toNatClampNeg), .int (w.1 20 x3.toNatClampNeg)] [] C (c_X0_seatElsewhere l D cA _ (gInj_sub em_e_shL_shB_3 (gCi C)) (gsub w e_shL_shB_3) (w.1 18 x3.toNatClampNeg) (w.1 20 x3.toNatClampNeg) q6 hq6) em_e_shL_shB_3 (by decide) rfl kT_X0_seatElsewhere kl_X3_125 kim_X0_seatElsewhere kse_X0_seatElsewhere rfl rfl (i := 3) rfl rfl ⟨by decide, by decide⟩ gk0 (Nat.le_of_ble_eq_true rfl) (gdec dt_X3_act 27 rfl) rfl (st2 := [.int q6.1]) (w2 := (gput w e_shL_shB_3 q6.2)) rfl rfl ?_
    refine g_iconst C (gdec dt_X3_act 28 rfl) ic_m1 ?_
    refine g_icmp_eq C (tgt := 92) (gdec dt_X3_act 29 rfl) (by decide) (fun hc7 => ?_) (fun hc7 => ?_)
    · have hf := (if_pos hc7).symm.trans hf
      refine g_iconst C (gdec dt_X3_act 32 rfl) ic_0 ?_
      cases hf
      exact g_zret C (Or.inl rfl) rfl (gdec dt_X3_act 33 rfl)
    · have hf := (if_neg hc7).symm.trans hf
      refine g_iconst C (gdec dt_X3_act 30 rfl) ic_1 ?_
      refine g_goto C (tgt := 93) (gdec dt_X3_act 31 rfl) (by decide) ?_
      cases hf
      exact g_zret C (Or.inr rfl) rfl (gdec dt_X3_act 33 rfl)
  replace hf := (if_neg hc5).symm.trans hf
  by_cases hc8 : (w.1 17 x3.toNatClampNeg) = (17 : Int32)
  · have hf := (if_pos hc8).symm.trans hf
    refine g_tableIn C (tgt := 94) (off := 72) (gdec dt_X3_act 14 rfl) (by rw [hc8]; decide) (by rw [hc8]; decide) (by rw [hc8]; decide) (by decide) ?_
    refine g_aload_n C (gdec dt_X3_act 34 rfl) (i := 1) rfl rfl ?_
    refine g_iload C (gdec dt_X3_act 35 rfl) rfl ?_
    refine g_aload_n C (gdec dt_X3_act 36 rfl) (i := 2) rfl rfl ?_
    refine g_getr C (j := 19) kf_X3_129 rfl rfl (gdec dt_X3_act 37 rfl) ?_
    refine g_iload_n C (gdec dt_X3_act 38 rfl) (i := 3) rfl rfl ?_
    refine g_iald C (i := 19) rfl hg1 rfl (gdec dt_X3_act 39 rfl) ?_
    obtain ⟨q9, hq9, hf⟩ := Option.bind_eq_some_iff.mp hf
    refine g_invVs e_shL_shB_3 [.int (w.1 18 x3.toNatClampNeg), .int (w.1 19 x3.toNatClampNeg)] [] C (c_X0_exchange l D cA _ (gInj_sub em_e_shL_shB_3 (gCi C)) (gsub w e_shL_shB_3) (w.1 18 x3.toNatClampNeg) (w.1 19 x3.toNatClampNeg) q9 hq9) em_e_shL_shB_3 (by decide) rfl kT_X0_exchange kl_X3_132 kim_X0_exchange kse_X0_exchange rfl rfl (i := 3) rfl rfl ⟨by decide, by decide⟩ gk0 (Nat.le_of_ble_eq_true rfl) (gdec dt_X3_act 40 rfl) rfl (st2 := [.int q9.1]) (w2 := (gput w e_shL_shB_3 q9.2)) rfl rfl ?_
    refine g_iconst C (gdec dt_X3_act 41 rfl) ic_m1 ?_
    refine g_icmp_eq C (tgt := 114) (gdec dt_X3_act 42 rfl) (by decide) (fun hc10 => ?_) (fun hc10 => ?_)
    · have hf := (if_pos hc10).symm.trans hf
      refine g_iconst C (gdec dt_X3_act 45 rfl) ic_0 ?_
      cases hf
      exact g_zret C (Or.inl rfl) rfl (gdec dt_X3_act 46 rfl)
    · have hf := (if_neg hc10).symm.trans hf
      refine g_iconst C (gdec dt_X3_act 43 rfl) ic_1 ?_
      refine g_goto C (tgt := 115) (gdec dt_X3_act 44 rfl) (by decide) ?_
      cases hf
      exact g_zret C (Or.inr rfl) rfl (gdec dt_X3_act 46 rfl)
  replace hf := (if_neg hc8).symm.trans hf
  by_cases hc11 : (w.1 17 x3.toNatClampNeg) = (18 : Int32)
  · have hf := (if_pos hc11).symm.trans hf
    refine g_tableIn C (tgt := 116) (off := 94) (gdec dt_X3_act 14 rfl) (by rw [hc11]; decide) (by rw [hc11]; decide) (by rw [hc11]; decide) (by decide) ?_
    refine g_aload_n C (gdec dt_X3_act 47 rfl) (i := 1) rfl rfl ?_
    refine g_iload C (gdec dt_X3_act 48 rfl) rfl ?_
    refine g_iload C (gdec dt_X3_act 49 rfl) rfl ?_
    obtain ⟨q12, hq12, hf⟩ := Option.bind_eq_some_iff.mp hf
    refine g_invVs e_shL_shB_3 [.int (w.1 18 x3.toNatClampNeg), .int (w.1 20 x3.toNatClampNeg)] [] C (c_X0_addSham l D cA _ (gInj_sub em_e_shL_shB_3 (gCi C)) (gsub w e_shL_shB_3) (w.1 18 x3.toNatClampNeg) (w.1 20 x3.toNatClampNeg) q12 hq12) em_e_shL_shB_3 (by decide) rfl kT_X0_addSham kl_X3_135 kim_X0_addSham kse_X0_addSham rfl rfl (i := 3) rfl rfl ⟨by decide, by decide⟩ gk0 (Nat.le_of_ble_eq_true rfl) (gdec dt_X3_act 50 rfl) rfl (st2 := [.int q12.1]) (w2 := (gput w e_shL_shB_3 q12.2)) rfl rfl ?_
    refine g_iconst C (gdec dt_X3_act 51 rfl) ic_m1 ?_
    refine g_icmp_eq C (tgt := 132) (gdec dt_X3_act 52 rfl) (by decide) (fun hc13 => ?_) (fun hc13 => ?_)
    · have hf := (if_pos hc13).symm.trans hf
      refine g_iconst C (gdec dt_X3_act 55 rfl) ic_0 ?_
      cases hf
      exact g_zret C (Or.inl rfl) rfl (gdec dt_X3_act 56 rfl)
    · have hf := (if_neg hc13).symm.trans hf
      refine g_iconst C (gdec dt_X3_act 53 rfl) ic_1 ?_
      refine g_goto C (tgt := 133) (gdec dt_X3_act 54 rfl) (by decide) ?_
      cases hf
      exact g_zret C (Or.inr rfl) rfl (gdec dt_X3_act 56 rfl)
  replace hf := (if_neg hc11).symm.trans hf
  by_cases hc14 : (w.1 17 x3.toNatClampNeg) = (19 : Int32)
  · have hf := (if_pos hc14).symm.trans hf
    refine g_tableIn C (tgt := 134) (off := 112) (gdec dt_X3_act 14 rfl) (by rw [hc14]; decide) (by rw [hc14]; decide) (by rw [hc14]; decide) (by decide) ?_
    refine g_aload_n C (gdec dt_X3_act 57 rfl) (i := 1) rfl rfl ?_
    refine g_iload C (gdec dt_X3_act 58 rfl) rfl ?_
    obtain ⟨q15, hq15, hf⟩ := Option.bind_eq_some_iff.mp hf
    refine g_invVs e_shL_shB_3 [.int (w.1 18 x3.toNatClampNeg)] [] C (c_X0_wipe l D cA _ (gInj_sub em_e_shL_shB_3 (gCi C)) (gsub w e_shL_shB_3) (w.1 18 x3.toNatClampNeg) q15 hq15) em_e_shL_shB_3 (by decide) rfl kT_X0_wipe kl_X3_138 kim_X0_wipe kse_X0_wipe rfl rfl (i := 3) rfl rfl ⟨by decide, by decide⟩ gk0 (Nat.le_of_ble_eq_true rfl) (gdec dt_X3_act 59 rfl) rfl (st2 := [.int q15.1]) (w2 := (gput w e_shL_shB_3 q15.2)) rfl rfl ?_
    refine g_iconst C (gdec dt_X3_act 60 rfl) ic_m1 ?_
    refine g_icmp_eq C (tgt := 148) (gdec dt_X3_act 61 rfl) (by decide) (fun hc16 => ?_) (fun hc16 => ?_)
    · have hf := (if_pos hc16).symm.trans hf
      refine g_iconst C (gdec dt_X3_act 64 rfl) ic_0 ?_
      cases hf
      exact g_zret C (Or.inl rfl) rfl (gdec dt_X3_act 65 rfl)
    · have hf := (if_neg hc16).symm.trans hf
      refine g_iconst C (gdec dt_X3_act 62 rfl) ic_1 ?_
      refine g_goto C (tgt := 149) (gdec dt_X3_act 63 rfl) (by decide) ?_
      cases hf
      exact g_zret C (Or.inr rfl) rfl (gdec dt_X3_act 65 rfl)
  replace hf := (if_neg hc14).symm.trans hf
  by_cases hc17 : (w.1 17 x3.toNatClampNeg) = (20 : Int32)
  · have hf := (if_pos hc17).symm.trans hf
    refine g_tableIn C (tgt := 150) (off := 128) (gdec dt_X3_act 14 rfl) (by rw [hc17]; decide) (by rw [hc17]; decide) (by rw [hc17]; decide) (by decide) ?_
    refine g_aload_n C (gdec dt_X3_act 66 rfl) (i := 1) rfl rfl ?_
    refine g_iload C (gdec dt_X3_act 67 rfl) rfl ?_
    obtain ⟨q18, hq18, hf⟩ := Option.bind_eq_some_iff.mp hf
    refine g_invVs e_shL_shB_3 [.int (w.1 18 x3.toNatClampNeg)] [] C (c_X0_exposeSham l D cA _ (gInj_sub em_e_shL_shB_3 (gCi C)) (gsub w e_shL_shB_3) (w.1 18 x3.toNatClampNeg) q18 hq18) em_e_shL_shB_3 (by decide) rfl kT_X0_exposeSham kl_X3_141 kim_X0_exposeSham kse_X0_exposeSham rfl rfl (i := 3) rfl rfl ⟨by decide, by decide⟩ gk0 (Nat.le_of_ble_eq_true rfl) (gdec dt_X3_act 68 rfl) rfl (st2 := [.int q18.1]) (w2 := (gput w e_shL_shB_3 q18.2)) rfl rfl ?_
    refine g_iconst C (gdec dt_X3_act 69 rfl) ic_m1 ?_
    refine g_icmp_eq C (tgt := 164) (gdec dt_X3_act 70 rfl) (by decide) (fun hc19 => ?_) (fun hc19 => ?_)
    · have hf := (if_pos hc19).symm.trans hf
      refine g_iconst C (gdec dt_X3_act 73 rfl) ic_0 ?_
      cases hf
      exact g_zret C (Or.inl rfl) rfl (gdec dt_X3_act 74 rfl)
    · have hf := (if_neg hc19).symm.trans hf
      refine g_iconst C (gdec dt_X3_act 71 rfl) ic_1 ?_
      refine g_goto C (tgt := 165) (gdec dt_X3_act 72 rfl) (by decide) ?_
      cases hf
      exact g_zret C (Or.inr rfl) rfl (gdec dt_X3_act 74 rfl)
  replace hf := (if_neg hc17).symm.trans hf
  refine g_tableOut C (tgt := 166) (gdec dt_X3_act 14 rfl) (gtsw_out (fun j hj => ?_)) (by decide) ?_
  · match j, hj with
    | 0, _ => exact lv_neT hc2 (by decide)
    | 1, _ => exact lv_neT hc5 (by decide)
    | 2, _ => exact lv_neT hc8 (by decide)
    | 3, _ => exact lv_neT hc11 (by decide)
    | 4, _ => exact lv_neT hc14 (by decide)
    | 5, _ => exact lv_neT hc17 (by decide)
    | j + 6, hj => exact absurd hj (by simp)
  refine g_aload_n C (gdec dt_X3_act 75 rfl) (i := 0) rfl rfl ?_
  refine g_aload_n C (gdec dt_X3_act 76 rfl) (i := 1) rfl rfl ?_
  obtain ⟨q20, hq20, hf⟩ := Option.bind_eq_some_iff.mp hf
  refine g_invV [.ref 3] [] C (c_X3_payClients l D cA _ (gCi C) w  q20 hq20) kT_X3_payClients kl_X3_144 kim_X3_payClients kse_X3_payClients rfl rfl (i := 0) rfl rfl ⟨by decide, by decide⟩ gk0 (Nat.le_of_ble_eq_true rfl) (gdec dt_X3_act 77 rfl) rfl (st2 := [.int q20.1]) rfl ?_
  obtain ⟨hb21, hf⟩ := gif hf
  cases hf
  exact g_zret C hb21 rfl (gdec dt_X3_act 78 rfl)
set_option maxHeartbeats 4000000 in
set_option maxRecDepth 100000 in
theorem L_X3_behindStep_138 {p : Program} {l : Launch} {e : Env} {s : State} {m : MethodId} {args : Array Value} {below : List Frame} {meth : Method} {c : Code} {D : va_G} {cA ad : Nat → Nat} {q : (Int32 × GW)} (C : gC p c cX3_behindStep meth m s args 6 (some .int) RX3 D cA ad shL) (x3 : Int32) (w : GW) (hf : f_X3_behindStep_138 x3 w = some q) : gW p l e (gRm 6 236) s m args below meth c D cA ad shL 6 0 0 (gQ below D cA ad shL (some (.int q.1)) q.2 args s) 138 [(3, .int x3)] [] w := by
  unfold f_X3_behindStep_138 at hf
  refine g_iload_n C (gdec dt_X3_behindStep 79 rfl) (i := 3) rfl rfl ?_
  refine g_iconst C (gdec dt_X3_behindStep 80 rfl) ic_1 ?_
  refine g_iadd C (gdec dt_X3_behindStep 81 rfl) ?_
  cases hf
  exact g_iret C rfl (gdec dt_X3_behindStep 82 rfl)
set_option maxHeartbeats 4000000 in
set_option maxRecDepth 100000 in
theorem L_X3_behindStep_121 {p : Program} {l : Launch} {e : Env} {s : State} {m : MethodId} {args : Array Value} {below : List Frame} {meth : Method} {c : Code} {D : va_G} {cA ad : Nat → Nat} {q : (Int32 × GW)} (C : gC p c cX3_behindStep meth m s args 6 (some .int) RX3 D cA ad shL) (x3 : Int32) (s0 : Int32) (w : GW) (hf : f_X3_behindStep_121 x3 s0 w = some q) : gW p l e (gRm 6 236) s m args below meth c D cA ad shL 6 0 0 (gQ below D cA ad shL (some (.int q.1)) q.2 args s) 121 [(0, .ref 0), (3, .int x3)] [.int s0] w := by
  unfold f_X3_behindStep_121 at hf
  refine g_istore C (gdec dt_X3_behindStep 70 rfl) (by decide) (lo2 := [(5, .int s0), (0, .ref 0), (3, .int x3)]) rfl ?_
  refine g_iload C (gdec dt_X3_behindStep 71 rfl) rfl ?_
  refine g_if_ne C (tgt := 138) (gdec dt_X3_behindStep 72 rfl) (by decide) (fun hc15 => ?_) (fun hc15 => ?_)
  · have hf := (if_neg hc15).symm.trans hf
    refine g_sub [2] (lo2 := [(3, .int x3)]) rfl ?_
    exact L_X3_behindStep_138 C x3 w hf
  · have hf := (if_pos hc15).symm.trans hf
    refine g_aload_n C (gdec dt_X3_behindStep 73 rfl) (i := 0) rfl rfl ?_
    refine g_dup C (gdec dt_X3_behindStep 74 rfl) rfl ?_
    refine g_geti C kf_X3_15 rfl rfl (gdec dt_X3_behindStep 75 rfl) ?_
    refine g_iconst C (gdec dt_X3_behindStep 76 rfl) ic_1 ?_
    refine g_iadd C (gdec dt_X3_behindStep 77 rfl) ?_
    refine g_puti C kf_X3_15 rfl rfl (gdec dt_X3_behindStep 78 rfl) ?_
    refine g_sub [2] (lo2 := [(3, .int x3)]) rfl ?_
    exact L_X3_behindStep_138 C x3 (gI w 0 1 ((w.1 0 1) + (1 : Int32))) hf
set_option maxHeartbeats 4000000 in
set_option maxRecDepth 100000 in
theorem c_X3_behindStep (l : Launch) (D : va_G) (cA ad : Nat → Nat) (hin : gInj ad shL.length) (w : GW) (x3 : Int32) (q : (Int32 × GW)) (hf : F_X3_behindStep x3 w = some q) : gMet l yX3_behindStep cX3_behindStep 6 (some .int) 6 236 D cA ad shL [.ref 0, .ref 3, .ref 16, .int x3] w (some (.int q.1)) q.2 := by
  refine g_entry (by decide) hin (Nat.le_of_ble_eq_true rfl) ?_
  intro p e s m args below meth c C
  unfold F_X3_behindStep at hf
  show gW p l e (gRm 6 236) s m args below meth c D cA ad shL 6 0 0 (gQ below D cA ad shL (some (.int q.1)) q.2 args s) 0 [(0, .ref 0), (1, .ref 3), (2, .ref 16), (3, .int x3)] [] w
  refine g_aload_n C (gdec dt_X3_behindStep 0 rfl) (i := 2) rfl rfl ?_
  refine g_iload_n C (gdec dt_X3_behindStep 1 rfl) (i := 3) rfl rfl ?_
  obtain ⟨q1, hq1, hf⟩ := Option.bind_eq_some_iff.mp hf
  refine g_invVs e_shL_shP_16 [.int x3] [] C (c_X5_hasStep l D cA _ (gInj_sub em_e_shL_shP_16 (gCi C)) (gsub w e_shL_shP_16) x3 q1 hq1) em_e_shL_shP_16 (by decide) rfl kT_X5_hasStep kl_X3_75 kim_X5_hasStep kse_X5_hasStep rfl rfl (i := 16) rfl rfl ⟨by decide, by decide⟩ gk0 (Nat.le_of_ble_eq_true rfl) (gdec dt_X3_behindStep 2 rfl) rfl (st2 := [.int q1]) (w2 := w) rfl (gput_sub _ _) ?_
  refine g_if_ne C (tgt := 10) (gdec dt_X3_behindStep 3 rfl) (by decide) (fun hc2 => ?_) (fun hc2 => ?_)
  · have hf := (if_neg hc2).symm.trans hf
    refine g_aload_n C (gdec dt_X3_behindStep 6 rfl) (i := 0) rfl rfl ?_
    refine g_geti C kf_X3_9 rfl rfl (gdec dt_X3_behindStep 7 rfl) ?_
    refine g_sipush C (gdec dt_X3_behindStep 8 rfl) sc_300 ?_
    refine g_icmp_lt C (tgt := 27) (gdec dt_X3_behindStep 9 rfl) (by decide) (fun hc3 => ?_) (fun hc3 => ?_)
    · have hf := (if_pos hc3).symm.trans hf
      refine g_aload_n C (gdec dt_X3_behindStep 15 rfl) (i := 0) rfl rfl ?_
      refine g_dup C (gdec dt_X3_behindStep 16 rfl) rfl ?_
      refine g_geti C kf_X3_9 rfl rfl (gdec dt_X3_behindStep 17 rfl) ?_
      refine g_iconst C (gdec dt_X3_behindStep 18 rfl) ic_1 ?_
      refine g_iadd C (gdec dt_X3_behindStep 19 rfl) ?_
      refine g_puti C kf_X3_9 rfl rfl (gdec dt_X3_behindStep 20 rfl) ?_
      refine g_aload_n C (gdec dt_X3_behindStep 21 rfl) (i := 2) rfl rfl ?_
      refine g_getr C (j := 17) kf_X3_79 rfl rfl (gdec dt_X3_behindStep 22 rfl) ?_
      refine g_iload_n C (gdec dt_X3_behindStep 23 rfl) (i := 3) rfl rfl ?_
      obtain ⟨hg4, hf⟩ := gif hf
      refine g_iald C (i := 17) rfl hg4 rfl (gdec dt_X3_behindStep 24 rfl) ?_
      refine g_istore C (gdec dt_X3_behindStep 25 rfl) (by decide) (lo2 := [(4, .int (w.1 17 x3.toNatClampNeg)), (0, .ref 0), (1, .ref 3), (2, .ref 16), (3, .int x3)]) rfl ?_
      refine g_iload C (gdec dt_X3_behindStep 26 rfl) rfl ?_
      refine g_bipush C (gdec dt_X3_behindStep 27 rfl) bc_27 ?_
      refine g_icmp_ne C (tgt := 54) (gdec dt_X3_behindStep 28 rfl) (by decide) (fun hc5 => ?_) (fun hc5 => ?_)
      · have hf := (if_neg hc5).symm.trans hf
        refine g_iload C (gdec dt_X3_behindStep 31 rfl) rfl ?_
        refine g_bipush C (gdec dt_X3_behindStep 32 rfl) bc_23 ?_
        refine g_icmp_ne C (tgt := 82) (gdec dt_X3_behindStep 33 rfl) (by decide) (fun hc6 => ?_) (fun hc6 => ?_)
        · have hf := (if_neg hc6).symm.trans hf
          refine g_iload C (gdec dt_X3_behindStep 47 rfl) rfl ?_
          refine g_bipush C (gdec dt_X3_behindStep 48 rfl) bc_25 ?_
          refine g_icmp_ne C (tgt := 99) (gdec dt_X3_behindStep 49 rfl) (by decide) (fun hc7 => ?_) (fun hc7 => ?_)
          · have hf := (if_neg hc7).symm.trans hf
            refine g_iload C (gdec dt_X3_behindStep 58 rfl) rfl ?_
            refine g_bipush C (gdec dt_X3_behindStep 59 rfl) bc_22 ?_
            refine g_icmp_ne C (tgt := 114) (gdec dt_X3_behindStep 60 rfl) (by decide) (fun hc8 => ?_) (fun hc8 => ?_)
            · have hf := (if_neg hc8).symm.trans hf
              refine g_aload_n C (gdec dt_X3_behindStep 65 rfl) (i := 0) rfl rfl ?_
              refine g_aload_n C (gdec dt_X3_behindStep 66 rfl) (i := 1) rfl rfl ?_
              refine g_aload_n C (gdec dt_X3_behindStep 67 rfl) (i := 2) rfl rfl ?_
              refine g_iload_n C (gdec dt_X3_behindStep 68 rfl) (i := 3) rfl rfl ?_
              obtain ⟨q9, hq9, hf⟩ := Option.bind_eq_some_iff.mp hf
              refine g_invV [.ref 3, .ref 16, .int x3] [] C (c_X3_act l D cA _ (gCi C) (gI w 0 0 ((w.1 0 0) + (1 : Int32))) x3 q9 hq9) kT_X3_act kl_X3_94 kim_X3_act kse_X3_act rfl rfl (i := 0) rfl rfl ⟨by decide, by decide⟩ gk0 (Nat.le_of_ble_eq_true rfl) (gdec dt_X3_behindStep 69 rfl) rfl (st2 := [.int q9.1]) rfl ?_
              refine g_sub [1, 4] (lo2 := [(0, .ref 0), (3, .int x3)]) rfl ?_
              exact L_X3_behindStep_121 C x3 q9.1 q9.2 hf
            · have hf := (if_pos hc8).symm.trans hf
              refine g_aload_n C (gdec dt_X3_behindStep 61 rfl) (i := 0) rfl rfl ?_
              refine g_aload_n C (gdec dt_X3_behindStep 62 rfl) (i := 1) rfl rfl ?_
              obtain ⟨q10, hq10, hf⟩ := Option.bind_eq_some_iff.mp hf
              refine g_invV [.ref 3] [] C (c_X3_dustOrWait l D cA _ (gCi C) (gI w 0 0 ((w.1 0 0) + (1 : Int32)))  q10 hq10) kT_X3_dustOrWait kl_X3_90 kim_X3_dustOrWait kse_X3_dustOrWait rfl rfl (i := 0) rfl rfl ⟨by decide, by decide⟩ gk0 (Nat.le_of_ble_eq_true rfl) (gdec dt_X3_behindStep 63 rfl) rfl (st2 := [.int q10.1]) rfl ?_
              refine g_goto C (tgt := 121) (gdec dt_X3_behindStep 64 rfl) (by decide) ?_
              refine g_sub [1, 4] (lo2 := [(0, .ref 0), (3, .int x3)]) rfl ?_
              exact L_X3_behindStep_121 C x3 q10.1 q10.2 hf
          · have hf := (if_pos hc7).symm.trans hf
            refine g_aload_n C (gdec dt_X3_behindStep 50 rfl) (i := 0) rfl rfl ?_
            refine g_aload_n C (gdec dt_X3_behindStep 51 rfl) (i := 2) rfl rfl ?_
            refine g_iload_n C (gdec dt_X3_behindStep 52 rfl) (i := 3) rfl rfl ?_
            obtain ⟨q11, hq11, hf⟩ := Option.bind_eq_some_iff.mp hf
            refine g_invV [.ref 16, .int x3] [] C (c_X3_enterLoop l D cA _ (gCi C) (gI w 0 0 ((w.1 0 0) + (1 : Int32))) x3 q11 hq11) kT_X3_enterLoop kl_X3_86 kim_X3_enterLoop kse_X3_enterLoop rfl rfl (i := 0) rfl rfl ⟨by decide, by decide⟩ gk0 (Nat.le_of_ble_eq_true rfl) (gdec dt_X3_behindStep 53 rfl) rfl (st2 := []) rfl ?_
            refine g_iload_n C (gdec dt_X3_behindStep 54 rfl) (i := 3) rfl rfl ?_
            refine g_iconst C (gdec dt_X3_behindStep 55 rfl) ic_1 ?_
            refine g_iadd C (gdec dt_X3_behindStep 56 rfl) ?_
            cases hf
            exact g_iret C rfl (gdec dt_X3_behindStep 57 rfl)
        · have hf := (if_pos hc6).symm.trans hf
          refine g_aload_n C (gdec dt_X3_behindStep 34 rfl) (i := 1) rfl rfl ?_
          refine g_aload_n C (gdec dt_X3_behindStep 35 rfl) (i := 2) rfl rfl ?_
          refine g_iload_n C (gdec dt_X3_behindStep 36 rfl) (i := 3) rfl rfl ?_
          obtain ⟨q12, hq12, hf⟩ := Option.bind_eq_some_iff.mp hf
          refine g_invS [.ref 3, .ref 16, .int x3] [] C (c_X3_holds l D cA _ (gCi C) (gI w 0 0 ((w.1 0 0) + (1 : Int32))) x3 q12 hq12) kT_X3_holds kl_X3_82 kst_X3_holds rfl rfl ⟨by decide, by decide⟩ gk0 (Nat.le_of_ble_eq_true rfl) (gdec dt_X3_behindStep 37 rfl) rfl (st2 := [.int q12]) rfl ?_
          refine g_if_eq C (tgt := 76) (gdec dt_X3_behindStep 38 rfl) (by decide) (fun hc13 => ?_) (fun hc13 => ?_)
          · have hf := (if_pos hc13).symm.trans hf
            refine g_aload_n C (gdec dt_X3_behindStep 43 rfl) (i := 2) rfl rfl ?_
            refine g_iload_n C (gdec dt_X3_behindStep 44 rfl) (i := 3) rfl rfl ?_
            obtain ⟨q14, hq14, hf⟩ := Option.bind_eq_some_iff.mp hf
            refine g_invVs e_shL_shP_16 [.int x3] [] C (c_X5_closeOf l D cA _ (gInj_sub em_e_shL_shP_16 (gCi C)) (gsub (gI w 0 0 ((w.1 0 0) + (1 : Int32))) e_shL_shP_16) x3 q14 hq14) em_e_shL_shP_16 (by decide) rfl kT_X5_closeOf kl_X3_70 kim_X5_closeOf kse_X5_closeOf rfl rfl (i := 16) rfl rfl ⟨by decide, by decide⟩ gk0 (Nat.le_of_ble_eq_true rfl) (gdec dt_X3_behindStep 45 rfl) rfl (st2 := [.int q14]) (w2 := (gI w 0 0 ((w.1 0 0) + (1 : Int32)))) rfl (gput_sub _ _) ?_
            cases hf
            exact g_iret C rfl (gdec dt_X3_behindStep 46 rfl)
          · have hf := (if_neg hc13).symm.trans hf
            refine g_iload_n C (gdec dt_X3_behindStep 39 rfl) (i := 3) rfl rfl ?_
            refine g_iconst C (gdec dt_X3_behindStep 40 rfl) ic_1 ?_
            refine g_iadd C (gdec dt_X3_behindStep 41 rfl) ?_
            refine g_goto C (tgt := 81) (gdec dt_X3_behindStep 42 rfl) (by decide) ?_
            cases hf
            exact g_iret C rfl (gdec dt_X3_behindStep 46 rfl)
      · have hf := (if_pos hc5).symm.trans hf
        refine g_iconst C (gdec dt_X3_behindStep 29 rfl) ic_m1 ?_
        cases hf
        exact g_iret C rfl (gdec dt_X3_behindStep 30 rfl)
    · have hf := (if_neg hc3).symm.trans hf
      refine g_aload_n C (gdec dt_X3_behindStep 10 rfl) (i := 0) rfl rfl ?_
      refine g_iconst C (gdec dt_X3_behindStep 11 rfl) ic_1 ?_
      refine g_putz C kf_X3_27 rfl rfl (Or.inr rfl) (gdec dt_X3_behindStep 12 rfl) ?_
      refine g_iconst C (gdec dt_X3_behindStep 13 rfl) ic_m1 ?_
      cases hf
      exact g_iret C rfl (gdec dt_X3_behindStep 14 rfl)
  · have hf := (if_pos hc2).symm.trans hf
    refine g_iconst C (gdec dt_X3_behindStep 4 rfl) ic_m1 ?_
    cases hf
    exact g_iret C rfl (gdec dt_X3_behindStep 5 rfl)
set_option maxHeartbeats 4000000 in
set_option maxRecDepth 100000 in
theorem L_X3_goThrough_63 {p : Program} {l : Launch} {e : Env} {s : State} {m : MethodId} {args : Array Value} {below : List Frame} {meth : Method} {c : Code} {D : va_G} {cA ad : Nat → Nat} {q : GW} (C : gC p c cX3_goThrough meth m s args 8 none RX3 D cA ad shL) {k23 : Int32 → Int32 → Int32 → Int32 → GW → Option GW} (hk23 : ∀ (x4 : Int32) (x5 : Int32) (x6 : Int32) (x7 : Int32) (w : GW), k23 x4 x5 x6 x7 w = some q → gW p l e (gRm 7 261) s m args below meth c D cA ad shL 8 0 0 (gQ below D cA ad shL none q args s) 23 [(0, .ref 0), (1, .ref 3), (2, .ref 16), (4, .int x4), (5, .int x5), (6, .int x6), (7, .int x7)] [] w) (x4 : Int32) (x5 : Int32) (x7 : Int32) (s0 : Int32) (w : GW) (hf : f_X3_goThrough_63 k23 x4 x5 x7 s0 w = some q) : gW p l e (gRm 7 261) s m args below meth c D cA ad shL 8 0 0 (gQ below D cA ad shL none q args s) 63 [(0, .ref 0), (1, .ref 3), (2, .ref 16), (4, .int x4), (5, .int x5), (7, .int x7)] [.int s0] w := by
  unfold f_X3_goThrough_63 at hf
  refine g_istore C (gdec dt_X3_goThrough 33 rfl) (by decide) (lo2 := [(6, .int s0), (0, .ref 0), (1, .ref 3), (2, .ref 16), (4, .int x4), (5, .int x5), (7, .int x7)]) rfl ?_
  refine g_iinc C (gdec dt_X3_goThrough 34 rfl) (kk := 6) rfl (v := (x7 + (1 : Int32))) rfl (by decide) (lo2 := [(7, .int (x7 + (1 : Int32))), (6, .int s0), (0, .ref 0), (1, .ref 3), (2, .ref 16), (4, .int x4), (5, .int x5)]) rfl ?_
  refine g_goto C (tgt := 23) (gdec dt_X3_goThrough 35 rfl) (by decide) ?_
  refine g_sub [2, 3, 4, 5, 6, 1, 0] (lo2 := [(0, .ref 0), (1, .ref 3), (2, .ref 16), (4, .int x4), (5, .int x5), (6, .int s0), (7, .int (x7 + (1 : Int32)))]) rfl ?_
  exact hk23 x4 x5 s0 (x7 + (1 : Int32)) w hf
set_option maxHeartbeats 4000000 in
set_option maxRecDepth 100000 in
theorem L_X3_goThrough_71 {p : Program} {l : Launch} {e : Env} {s : State} {m : MethodId} {args : Array Value} {below : List Frame} {meth : Method} {c : Code} {D : va_G} {cA ad : Nat → Nat} {q : GW} (C : gC p c cX3_goThrough meth m s args 8 none RX3 D cA ad shL) (x4 : Int32) (x5 : Int32) (w : GW) (hf : f_X3_goThrough_71 x4 x5 w = some q) : gW p l e (gRm 7 261) s m args below meth c D cA ad shL 8 0 0 (gQ below D cA ad shL none q args s) 71 [(0, .ref 0), (1, .ref 3), (4, .int x4), (5, .int x5)] [] w := by
  unfold f_X3_goThrough_71 at hf
  refine g_aload_n C (gdec dt_X3_goThrough 36 rfl) (i := 0) rfl rfl ?_
  refine g_aload_n C (gdec dt_X3_goThrough 37 rfl) (i := 1) rfl rfl ?_
  refine g_geti C kf_X3_48 rfl rfl (gdec dt_X3_goThrough 38 rfl) ?_
  refine g_iload C (gdec dt_X3_goThrough 39 rfl) rfl ?_
  refine g_isub C (gdec dt_X3_goThrough 40 rfl) ?_
  refine g_puti C kf_X3_18 rfl rfl (gdec dt_X3_goThrough 41 rfl) ?_
  refine g_aload_n C (gdec dt_X3_goThrough 42 rfl) (i := 0) rfl rfl ?_
  refine g_aload_n C (gdec dt_X3_goThrough 43 rfl) (i := 1) rfl rfl ?_
  obtain ⟨q9, hq9, hf⟩ := Option.bind_eq_some_iff.mp hf
  refine g_invVs e_shL_shB_3 [] [.ref 0] C (c_X0_paidOfAll l D cA _ (gInj_sub em_e_shL_shB_3 (gCi C)) (gsub (gI w 0 2 ((w.1 3 2) - x4)) e_shL_shB_3)  q9 hq9) em_e_shL_shB_3 (by decide) rfl kT_X0_paidOfAll kl_X3_53 kim_X0_paidOfAll kse_X0_paidOfAll rfl rfl (i := 3) rfl rfl ⟨by decide, by decide⟩ gk0 (Nat.le_of_ble_eq_true rfl) (gdec dt_X3_goThrough 44 rfl) rfl (st2 := [.int q9, .ref 0]) (w2 := (gI w 0 2 ((w.1 3 2) - x4))) rfl (gput_sub _ _) ?_
  refine g_iload C (gdec dt_X3_goThrough 45 rfl) rfl ?_
  refine g_isub C (gdec dt_X3_goThrough 46 rfl) ?_
  refine g_puti C kf_X3_21 rfl rfl (gdec dt_X3_goThrough 47 rfl) ?_
  cases hf
  exact g_vret C rfl (gdec dt_X3_goThrough 48 rfl)
set_option maxHeartbeats 4000000 in
set_option maxRecDepth 100000 in
theorem Lb_X3_goThrough_23 {p : Program} {l : Launch} {e : Env} {s : State} {m : MethodId} {args : Array Value} {below : List Frame} {meth : Method} {c : Code} {D : va_G} {cA ad : Nat → Nat} {q : GW} (C : gC p c cX3_goThrough meth m s args 8 none RX3 D cA ad shL) {k23 : Int32 → Int32 → Int32 → Int32 → GW → Option GW} (hk23 : ∀ (x4 : Int32) (x5 : Int32) (x6 : Int32) (x7 : Int32) (w : GW), k23 x4 x5 x6 x7 w = some q → gW p l e (gRm 7 261) s m args below meth c D cA ad shL 8 0 0 (gQ below D cA ad shL none q args s) 23 [(0, .ref 0), (1, .ref 3), (2, .ref 16), (4, .int x4), (5, .int x5), (6, .int x6), (7, .int x7)] [] w) (x4 : Int32) (x5 : Int32) (x6 : Int32) (x7 : Int32) (w : GW) (hf : b_X3_goThrough_23 k23 x4 x5 x6 x7 w = some q) : gW p l e (gRm 7 261) s m args below meth c D cA ad shL 8 0 0 (gQ below D cA ad shL none q args s) 23 [(0, .ref 0), (1, .ref 3), (2, .ref 16), (4, .int x4), (5, .int x5), (6, .int x6), (7, .int x7)] [] w := by
  unfold b_X3_goThrough_23 at hf
  refine g_iload C (gdec dt_X3_goThrough 13 rfl) rfl ?_
  refine g_ldc C kk_X3_57 (gdec dt_X3_goThrough 14 rfl) ?_
  refine g_icmp_ge C (tgt := 71) (gdec dt_X3_goThrough 15 rfl) (by decide) (fun hc3 => ?_) (fun hc3 => ?_)
  · have hf := (if_pos hc3).symm.trans hf
    refine g_sub [0, 1, 3, 4] (lo2 := [(0, .ref 0), (1, .ref 3), (4, .int x4), (5, .int x5)]) rfl ?_
    exact L_X3_goThrough_71 C x4 x5 w hf
  · have hf := (if_neg hc3).symm.trans hf
    refine g_iload C (gdec dt_X3_goThrough 16 rfl) rfl ?_
    refine g_iconst C (gdec dt_X3_goThrough 17 rfl) ic_m1 ?_
    refine g_icmp_eq C (tgt := 71) (gdec dt_X3_goThrough 18 rfl) (by decide) (fun hc4 => ?_) (fun hc4 => ?_)
    · have hf := (if_pos hc4).symm.trans hf
      refine g_sub [0, 1, 3, 4] (lo2 := [(0, .ref 0), (1, .ref 3), (4, .int x4), (5, .int x5)]) rfl ?_
      exact L_X3_goThrough_71 C x4 x5 w hf
    · have hf := (if_neg hc4).symm.trans hf
      refine g_aload_n C (gdec dt_X3_goThrough 19 rfl) (i := 0) rfl rfl ?_
      refine g_aload_n C (gdec dt_X3_goThrough 20 rfl) (i := 2) rfl rfl ?_
      refine g_iload C (gdec dt_X3_goThrough 21 rfl) rfl ?_
      obtain ⟨q5, hq5, hf⟩ := Option.bind_eq_some_iff.mp hf
      refine g_invV [.ref 16, .int x6] [] C (c_X3_isRoundOver l D cA _ (gCi C) w x6 q5 hq5) kT_X3_isRoundOver kl_X3_58 kim_X3_isRoundOver kse_X3_isRoundOver rfl rfl (i := 0) rfl rfl ⟨by decide, by decide⟩ gk0 (Nat.le_of_ble_eq_true rfl) (gdec dt_X3_goThrough 22 rfl) rfl (st2 := [.int q5]) rfl ?_
      refine g_if_eq C (tgt := 55) (gdec dt_X3_goThrough 23 rfl) (by decide) (fun hc6 => ?_) (fun hc6 => ?_)
      · have hf := (if_pos hc6).symm.trans hf
        refine g_aload_n C (gdec dt_X3_goThrough 28 rfl) (i := 0) rfl rfl ?_
        refine g_aload_n C (gdec dt_X3_goThrough 29 rfl) (i := 1) rfl rfl ?_
        refine g_aload_n C (gdec dt_X3_goThrough 30 rfl) (i := 2) rfl rfl ?_
        refine g_iload C (gdec dt_X3_goThrough 31 rfl) rfl ?_
        obtain ⟨q7, hq7, hf⟩ := Option.bind_eq_some_iff.mp hf
        refine g_invV [.ref 3, .ref 16, .int x6] [] C (c_X3_behindStep l D cA _ (gCi C) w x6 q7 hq7) kT_X3_behindStep kl_X3_66 kim_X3_behindStep kse_X3_behindStep rfl rfl (i := 0) rfl rfl ⟨by decide, by decide⟩ gk0 (Nat.le_of_ble_eq_true rfl) (gdec dt_X3_goThrough 32 rfl) rfl (st2 := [.int q7.1]) rfl ?_
        refine g_sub [0, 1, 2, 3, 4, 6] (lo2 := [(0, .ref 0), (1, .ref 3), (2, .ref 16), (4, .int x4), (5, .int x5), (7, .int x7)]) rfl ?_
        exact L_X3_goThrough_63 C hk23 x4 x5 x7 q7.1 q7.2 hf
      · have hf := (if_neg hc6).symm.trans hf
        refine g_aload_n C (gdec dt_X3_goThrough 24 rfl) (i := 0) rfl rfl ?_
        refine g_iload C (gdec dt_X3_goThrough 25 rfl) rfl ?_
        obtain ⟨q8, hq8, hf⟩ := Option.bind_eq_some_iff.mp hf
        refine g_invV [.int x6] [] C (c_X3_behindRound l D cA _ (gCi C) w x6 q8 hq8) kT_X3_behindRound kl_X3_62 kim_X3_behindRound kse_X3_behindRound rfl rfl (i := 0) rfl rfl ⟨by decide, by decide⟩ gk0 (Nat.le_of_ble_eq_true rfl) (gdec dt_X3_goThrough 26 rfl) rfl (st2 := [.int q8.1]) rfl ?_
        refine g_goto C (tgt := 63) (gdec dt_X3_goThrough 27 rfl) (by decide) ?_
        refine g_sub [0, 1, 2, 3, 4, 6] (lo2 := [(0, .ref 0), (1, .ref 3), (2, .ref 16), (4, .int x4), (5, .int x5), (7, .int x7)]) rfl ?_
        exact L_X3_goThrough_63 C hk23 x4 x5 x7 q8.1 q8.2 hf
theorem L_X3_goThrough_23 {p : Program} {l : Launch} {e : Env} {s : State} {m : MethodId} {args : Array Value} {below : List Frame} {meth : Method} {c : Code} {D : va_G} {cA ad : Nat → Nat} {q : GW} (C : gC p c cX3_goThrough meth m s args 8 none RX3 D cA ad shL) : ∀ (n : Nat) (x4 : Int32) (x5 : Int32) (x6 : Int32) (x7 : Int32) (w : GW), f_X3_goThrough_23 n x4 x5 x6 x7 w = some q → gW p l e (gRm 7 261) s m args below meth c D cA ad shL 8 0 0 (gQ below D cA ad shL none q args s) 23 [(0, .ref 0), (1, .ref 3), (2, .ref 16), (4, .int x4), (5, .int x5), (6, .int x6), (7, .int x7)] [] w := by
  intro n
  induction n with
  | zero => intro _ _ _ _ _ hf; cases hf
  | succ n ih => intro x4 x5 x6 x7 w hf; exact Lb_X3_goThrough_23 C ih x4 x5 x6 x7 w hf
set_option maxHeartbeats 4000000 in
set_option maxRecDepth 100000 in
theorem c_X3_goThrough (l : Launch) (D : va_G) (cA ad : Nat → Nat) (hin : gInj ad shL.length) (w : GW) (x3 : Int32) (q : GW) (hf : F_X3_goThrough x3 w = some q) : gMet l yX3_goThrough cX3_goThrough 8 none 7 261 D cA ad shL [.ref 0, .ref 3, .ref 16, .int x3] w none q := by
  refine g_entry (by decide) hin (Nat.le_of_ble_eq_true rfl) ?_
  intro p e s m args below meth c C
  unfold F_X3_goThrough at hf
  show gW p l e (gRm 7 261) s m args below meth c D cA ad shL 8 0 0 (gQ below D cA ad shL none q args s) 0 [(0, .ref 0), (1, .ref 3), (2, .ref 16), (3, .int x3)] [] w
  refine g_aload_n C (gdec dt_X3_goThrough 0 rfl) (i := 0) rfl rfl ?_
  refine g_iload_n C (gdec dt_X3_goThrough 1 rfl) (i := 3) rfl rfl ?_
  obtain ⟨q1, hq1, hf⟩ := Option.bind_eq_some_iff.mp hf
  refine g_invV [.int x3] [] C (c_X3_begin l D cA _ (gCi C) w x3 q1 hq1) kT_X3_begin kl_X3_44 kim_X3_begin kse_X3_begin rfl rfl (i := 0) rfl rfl ⟨by decide, by decide⟩ gk0 (Nat.le_of_ble_eq_true rfl) (gdec dt_X3_goThrough 2 rfl) rfl (st2 := []) rfl ?_
  refine g_aload_n C (gdec dt_X3_goThrough 3 rfl) (i := 1) rfl rfl ?_
  refine g_geti C kf_X3_48 rfl rfl (gdec dt_X3_goThrough 4 rfl) ?_
  refine g_istore C (gdec dt_X3_goThrough 5 rfl) (by decide) (lo2 := [(4, .int (q1.1 3 2)), (0, .ref 0), (1, .ref 3), (2, .ref 16), (3, .int x3)]) rfl ?_
  refine g_aload_n C (gdec dt_X3_goThrough 6 rfl) (i := 1) rfl rfl ?_
  obtain ⟨q2, hq2, hf⟩ := Option.bind_eq_some_iff.mp hf
  refine g_invVs e_shL_shB_3 [] [] C (c_X0_paidOfAll l D cA _ (gInj_sub em_e_shL_shB_3 (gCi C)) (gsub q1 e_shL_shB_3)  q2 hq2) em_e_shL_shB_3 (by decide) rfl kT_X0_paidOfAll kl_X3_53 kim_X0_paidOfAll kse_X0_paidOfAll rfl rfl (i := 3) rfl rfl ⟨by decide, by decide⟩ gk0 (Nat.le_of_ble_eq_true rfl) (gdec dt_X3_goThrough 7 rfl) rfl (st2 := [.int q2]) (w2 := q1) rfl (gput_sub _ _) ?_
  refine g_istore C (gdec dt_X3_goThrough 8 rfl) (by decide) (lo2 := [(5, .int q2), (4, .int (q1.1 3 2)), (0, .ref 0), (1, .ref 3), (2, .ref 16), (3, .int x3)]) rfl ?_
  refine g_iconst C (gdec dt_X3_goThrough 9 rfl) ic_0 ?_
  refine g_istore C (gdec dt_X3_goThrough 10 rfl) (by decide) (lo2 := [(6, .int (0 : Int32)), (5, .int q2), (4, .int (q1.1 3 2)), (0, .ref 0), (1, .ref 3), (2, .ref 16), (3, .int x3)]) rfl ?_
  refine g_iconst C (gdec dt_X3_goThrough 11 rfl) ic_0 ?_
  refine g_istore C (gdec dt_X3_goThrough 12 rfl) (by decide) (lo2 := [(7, .int (0 : Int32)), (6, .int (0 : Int32)), (5, .int q2), (4, .int (q1.1 3 2)), (0, .ref 0), (1, .ref 3), (2, .ref 16), (3, .int x3)]) rfl ?_
  refine g_sub [4, 5, 6, 3, 2, 1, 0] (lo2 := [(0, .ref 0), (1, .ref 3), (2, .ref 16), (4, .int (q1.1 3 2)), (5, .int q2), (6, .int (0 : Int32)), (7, .int (0 : Int32))]) rfl ?_
  exact L_X3_goThrough_23 C FU (q1.1 3 2) q2 (0 : Int32) (0 : Int32) q1 hf
