def tb_X9_isTray : List (Nat × Jvm.ClassFile.Instr × Nat) := [(0, .iload_n 1, 1), (1, .ifCond .lt 12, 3), (4, .iload_n 1, 1), (5, .iconst 4, 1), (6, .if_icmp .ge 7, 3), (9, .iconst 1, 1), (10, .goto 4, 3), (13, .iconst 0, 1), (14, .ireturn, 1)]
set_option maxRecDepth 100000 in
theorem dt_X9_isTray : ∀ q ∈ tb_X9_isTray, decode cX9_isTray q.1 = .ok q.2 := by decide +kernel
def tb_X9_isThere : List (Nat × Jvm.ClassFile.Instr × Nat) := [(0, .aload_n 0, 1), (1, .iload_n 1, 1), (2, .invokevirtual 23, 3), (5, .ifCond .eq 17, 3), (8, .aload_n 0, 1), (9, .getfield 16, 3), (12, .iload_n 1, 1), (13, .iaload, 1), (14, .iconst (-1), 1), (15, .if_icmp .eq 7, 3), (18, .iconst 1, 1), (19, .goto 4, 3), (22, .iconst 0, 1), (23, .ireturn, 1)]
set_option maxRecDepth 100000 in
theorem dt_X9_isThere : ∀ q ∈ tb_X9_isThere, decode cX9_isThere q.1 = .ok q.2 := by decide +kernel
def tb_X9_areAlike : List (Nat × Jvm.ClassFile.Instr × Nat) := [(0, .aload_n 0, 1), (1, .iload_n 1, 1), (2, .invokevirtual 23, 3), (5, .ifCond .eq 30, 3), (8, .aload_n 0, 1), (9, .iload_n 2, 1), (10, .invokevirtual 23, 3), (13, .ifCond .eq 22, 3), (16, .aload_n 0, 1), (17, .getfield 16, 3), (20, .iload_n 1, 1), (21, .iaload, 1), (22, .aload_n 0, 1), (23, .getfield 16, 3), (26, .iload_n 2, 1), (27, .iaload, 1), (28, .if_icmp .ne 7, 3), (31, .iconst 1, 1), (32, .goto 4, 3), (35, .iconst 0, 1), (36, .ireturn, 1)]
set_option maxRecDepth 100000 in
theorem dt_X9_areAlike : ∀ q ∈ tb_X9_areAlike, decode cX9_areAlike q.1 = .ok q.2 := by decide +kernel
def tb_X9_hasFrom : List (Nat × Jvm.ClassFile.Instr × Nat) := [(0, .aload_n 0, 1), (1, .iload_n 1, 1), (2, .invokevirtual 27, 3), (5, .ifCond .eq 37, 3), (8, .iload_n 2, 1), (9, .ifCond .lt 33, 3), (12, .iload_n 3, 1), (13, .ifCond .lt 29, 3), (16, .iload_n 2, 1), (17, .aload_n 0, 1), (18, .getfield 20, 3), (21, .iload_n 1, 1), (22, .iaload, 1), (23, .if_icmp .gt 19, 3), (26, .iload_n 3, 1), (27, .aload_n 0, 1), (28, .getfield 20, 3), (31, .iload_n 1, 1), (32, .iaload, 1), (33, .iload_n 2, 1), (34, .isub, 1), (35, .if_icmp .gt 7, 3), (38, .iconst 1, 1), (39, .goto 4, 3), (42, .iconst 0, 1), (43, .ireturn, 1)]
set_option maxRecDepth 100000 in
theorem dt_X9_hasFrom : ∀ q ∈ tb_X9_hasFrom, decode cX9_hasFrom q.1 = .ok q.2 := by decide +kernel
def tb_X9_whyNot : List (Nat × Jvm.ClassFile.Instr × Nat) := [(0, .aload_n 0, 1), (1, .iload_n 1, 1), (2, .invokevirtual 23, 3), (5, .ifCond .ne 5, 3), (8, .iconst 1, 1), (9, .ireturn, 1), (10, .aload_n 0, 1), (11, .iload_n 1, 1), (12, .invokevirtual 27, 3), (15, .ifCond .ne 5, 3), (18, .iconst 2, 1), (19, .ireturn, 1), (20, .aload_n 0, 1), (21, .iload_n 1, 1), (22, .iload_n 2, 1), (23, .iconst 1, 1), (24, .invokevirtual 30, 3), (27, .ifCond .eq 7, 3), (30, .iconst 0, 1), (31, .goto 4, 3), (34, .iconst 3, 1), (35, .ireturn, 1)]
set_option maxRecDepth 100000 in
theorem dt_X9_whyNot : ∀ q ∈ tb_X9_whyNot, decode cX9_whyNot q.1 = .ok q.2 := by decide +kernel
def tb_X9_lay : List (Nat × Jvm.ClassFile.Instr × Nat) := [(0, .aload_n 0, 1), (1, .iload_n 1, 1), (2, .invokevirtual 23, 3), (5, .ifCond .eq 43, 3), (8, .aload_n 0, 1), (9, .getfield 16, 3), (12, .iload_n 1, 1), (13, .iload_n 2, 1), (14, .iastore, 1), (15, .aload_n 0, 1), (16, .getfield 20, 3), (19, .iload_n 1, 1), (20, .iload_n 3, 1), (21, .iastore, 1), (22, .iconst 0, 1), (23, .istore 4, 2), (25, .iload 4, 2), (27, .bipush 60, 2), (29, .if_icmp .ge 19, 3), (32, .aload_n 0, 1), (33, .getfield 11, 3), (36, .iload_n 1, 1), (37, .aaload, 1), (38, .iload 4, 2), (40, .lconst 0, 1), (41, .lastore, 1), (42, .iinc 4 1, 3), (45, .goto (-20), 3), (48, .return_, 1)]
set_option maxRecDepth 100000 in
theorem dt_X9_lay : ∀ q ∈ tb_X9_lay, decode cX9_lay q.1 = .ok q.2 := by decide +kernel
def tb_X9_cut : List (Nat × Jvm.ClassFile.Instr × Nat) := [(0, .iload_n 2, 1), (1, .tableswitch 41 0 2 #[27, 32, 37], 27), (28, .lload_n 0, 1), (29, .l2i, 1), (30, .i2b, 1), (31, .i2l, 1), (32, .lreturn, 1), (33, .lload_n 0, 1), (34, .l2i, 1), (35, .i2s, 1), (36, .i2l, 1), (37, .lreturn, 1), (38, .lload_n 0, 1), (39, .l2i, 1), (40, .i2l, 1), (41, .lreturn, 1), (42, .lload_n 0, 1), (43, .lreturn, 1)]
set_option maxRecDepth 100000 in
theorem dt_X9_cut : ∀ q ∈ tb_X9_cut, decode cX9_cut q.1 = .ok q.2 := by decide +kernel
def tb_X9_put : List (Nat × Jvm.ClassFile.Instr × Nat) := [(0, .aload_n 0, 1), (1, .iload_n 1, 1), (2, .iload_n 2, 1), (3, .iconst 1, 1), (4, .invokevirtual 30, 3), (7, .ifCond .eq 21, 3), (10, .aload_n 0, 1), (11, .getfield 11, 3), (14, .iload_n 1, 1), (15, .aaload, 1), (16, .iload_n 2, 1), (17, .lload_n 3, 1), (18, .aload_n 0, 1), (19, .getfield 16, 3), (22, .iload_n 1, 1), (23, .iaload, 1), (24, .invokestatic 34, 3), (27, .lastore, 1), (28, .return_, 1)]
set_option maxRecDepth 100000 in
theorem dt_X9_put : ∀ q ∈ tb_X9_put, decode cX9_put q.1 = .ok q.2 := by decide +kernel
def tb_X9_at : List (Nat × Jvm.ClassFile.Instr × Nat) := [(0, .aload_n 0, 1), (1, .iload_n 1, 1), (2, .iload_n 2, 1), (3, .iconst 1, 1), (4, .invokevirtual 30, 3), (7, .ifCond .eq 14, 3), (10, .aload_n 0, 1), (11, .getfield 11, 3), (14, .iload_n 1, 1), (15, .aaload, 1), (16, .iload_n 2, 1), (17, .laload, 1), (18, .goto 4, 3), (21, .lconst 0, 1), (22, .lreturn, 1)]
set_option maxRecDepth 100000 in
theorem dt_X9_at : ∀ q ∈ tb_X9_at, decode cX9_at q.1 = .ok q.2 := by decide +kernel
def tb_X9_shift : List (Nat × Jvm.ClassFile.Instr × Nat) := [(0, .aload_n 0, 1), (1, .iload_n 1, 1), (2, .iload_n 2, 1), (3, .iload 5, 2), (5, .invokevirtual 30, 3), (8, .ifCond .eq 35, 3), (11, .aload_n 0, 1), (12, .iload_n 3, 1), (13, .iload 4, 2), (15, .iload 5, 2), (17, .invokevirtual 30, 3), (20, .ifCond .eq 23, 3), (23, .aload_n 0, 1), (24, .getfield 11, 3), (27, .iload_n 1, 1), (28, .aaload, 1), (29, .iload_n 2, 1), (30, .aload_n 0, 1), (31, .getfield 11, 3), (34, .iload_n 3, 1), (35, .aaload, 1), (36, .iload 4, 2), (38, .iload 5, 2), (40, .invokestatic 38, 3), (43, .return_, 1)]
set_option maxRecDepth 100000 in
theorem dt_X9_shift : ∀ q ∈ tb_X9_shift, decode cX9_shift q.1 = .ok q.2 := by decide +kernel
def tb_X9_whyNoTwos : List (Nat × Jvm.ClassFile.Instr × Nat) := [(0, .aload_n 0, 1), (1, .iload_n 1, 1), (2, .invokevirtual 23, 3), (5, .ifCond .eq 13, 3), (8, .iload_n 2, 1), (9, .ifCond .lt 9, 3), (12, .iload_n 2, 1), (13, .bipush 20, 2), (15, .if_icmp .le 5, 3), (18, .iconst 1, 1), (19, .ireturn, 1), (20, .aload_n 0, 1), (21, .iload_n 1, 1), (22, .invokevirtual 27, 3), (25, .ifCond .ne 5, 3), (28, .iconst 2, 1), (29, .ireturn, 1), (30, .aload_n 0, 1), (31, .iload_n 1, 1), (32, .iconst 0, 1), (33, .iconst 2, 1), (34, .iload_n 2, 1), (35, .imul, 1), (36, .invokevirtual 30, 3), (39, .ifCond .ne 5, 3), (42, .iconst 3, 1), (43, .ireturn, 1), (44, .iconst 0, 1), (45, .istore_n 3, 1), (46, .iload_n 3, 1), (47, .iconst 2, 1), (48, .iload_n 2, 1), (49, .imul, 1), (50, .if_icmp .ge 35, 3), (53, .aload_n 0, 1), (54, .iload_n 1, 1), (55, .iload_n 3, 1), (56, .invokevirtual 44, 3), (59, .lconst 0, 1), (60, .lcmp, 1), (61, .ifCond .lt 16, 3), (64, .aload_n 0, 1), (65, .iload_n 1, 1), (66, .iload_n 3, 1), (67, .invokevirtual 44, 3), (70, .ldc2_w 48, 3), (73, .lcmp, 1), (74, .ifCond .le 5, 3), (77, .iconst 5, 1), (78, .ireturn, 1), (79, .iinc 3 1, 3), (82, .goto (-36), 3), (85, .iconst 0, 1), (86, .ireturn, 1)]
set_option maxRecDepth 100000 in
theorem dt_X9_whyNoTwos : ∀ q ∈ tb_X9_whyNoTwos, decode cX9_whyNoTwos q.1 = .ok q.2 := by decide +kernel
def tb_X9_fittingStills : List (Nat × Jvm.ClassFile.Instr × Nat) := [(0, .iconst 0, 1), (1, .istore_n 3, 1), (2, .iconst 0, 1), (3, .istore 4, 2), (5, .iload 4, 2), (7, .bipush 9, 2), (9, .if_icmp .gt 87, 3), (12, .iconst 1, 1), (13, .istore 5, 2), (15, .iconst 0, 1), (16, .istore 6, 2), (18, .iload 6, 2), (20, .iload_n 2, 1), (21, .if_icmp .ge 57, 3), (24, .aload_n 0, 1), (25, .iload_n 1, 1), (26, .iconst 2, 1), (27, .iload 6, 2), (29, .imul, 1), (30, .invokevirtual 44, 3), (33, .l2i, 1), (34, .istore 7, 2), (36, .iload 5, 2), (38, .ifCond .eq 31, 3), (41, .iconst 0, 1), (42, .iload 4, 2), (44, .iload 7, 2), (46, .invokestatic 50, 3), (49, .i2l, 1), (50, .aload_n 0, 1), (51, .iload_n 1, 1), (52, .iconst 2, 1), (53, .iload 6, 2), (55, .imul, 1), (56, .iconst 1, 1), (57, .iadd, 1), (58, .invokevirtual 44, 3), (61, .lcmp, 1), (62, .ifCond .ne 7, 3), (65, .iconst 1, 1), (66, .goto 4, 3), (69, .iconst 0, 1), (70, .istore 5, 2), (72, .iinc 6 1, 3), (75, .goto (-57), 3), (78, .iload 5, 2), (80, .ifCond .eq 10, 3), (83, .iload_n 3, 1), (84, .iconst 1, 1), (85, .iload 4, 2), (87, .ishl, 1), (88, .ior, 1), (89, .istore_n 3, 1), (90, .iinc 4 1, 3), (93, .goto (-88), 3), (96, .iload_n 3, 1), (97, .ireturn, 1)]
set_option maxRecDepth 100000 in
theorem dt_X9_fittingStills : ∀ q ∈ tb_X9_fittingStills, decode cX9_fittingStills q.1 = .ok q.2 := by decide +kernel
def F_X9_isTray (w : GW) (x1 : Int32) : Option Int32 := (if x1 < 0 then (some (0 : Int32)) else (if (4 : Int32) ≤ x1 then (some (0 : Int32)) else (some (1 : Int32))))
def F_X9_isThere (w : GW) (x1 : Int32) : Option Int32 := ((F_X9_isTray w x1).bind fun q1 => (if q1 = 0 then (some (0 : Int32)) else (if gin x1 4 then (if (w.1 6 x1.toNatClampNeg) = (-1 : Int32) then (some (0 : Int32)) else (some (1 : Int32))) else none)))
def F_X9_areAlike (w : GW) (x1 : Int32) (x2 : Int32) : Option Int32 := ((F_X9_isTray w x1).bind fun q1 => (if q1 = 0 then (some (0 : Int32)) else ((F_X9_isTray w x2).bind fun q3 => (if q3 = 0 then (some (0 : Int32)) else (if gin x1 4 then (if gin x2 4 then (if (w.1 6 x1.toNatClampNeg) = (w.1 6 x2.toNatClampNeg) then (some (1 : Int32)) else (some (0 : Int32))) else none) else none)))))
def F_X9_hasFrom (w : GW) (x1 : Int32) (x2 : Int32) (x3 : Int32) : Option Int32 := ((F_X9_isThere w x1).bind fun q1 => (if q1 = 0 then (some (0 : Int32)) else (if x2 < 0 then (some (0 : Int32)) else (if x3 < 0 then (some (0 : Int32)) else (if gin x1 4 then (if (w.1 7 x1.toNatClampNeg) < x2 then (some (0 : Int32)) else (if ((w.1 7 x1.toNatClampNeg) - x2) < x3 then (some (0 : Int32)) else (some (1 : Int32)))) else none)))))
def F_X9_whyNot (w : GW) (x1 : Int32) (x2 : Int32) : Option Int32 := ((F_X9_isTray w x1).bind fun q1 => (if q1 = 0 then (some (1 : Int32)) else ((F_X9_isThere w x1).bind fun q3 => (if q3 = 0 then (some (2 : Int32)) else ((F_X9_hasFrom w x1 x2 (1 : Int32)).bind fun q5 => (if q5 = 0 then (some (3 : Int32)) else (some (0 : Int32))))))))
def b_X9_lay_25 (k25 : Int32 → Int32 → GW → Option GW) (x1 : Int32) (x4 : Int32) (w : GW) : Option GW := (if (60 : Int32) ≤ x4 then (some w) else (if gin x1 4 then (if gin x4 60 then (k25 x1 (x4 + (1 : Int32)) (gL w (2 + x1.toNatClampNeg) x4.toNatClampNeg (0 : Int64))) else none) else none))
def f_X9_lay_25 : Nat → Int32 → Int32 → GW → Option GW
  | 0, _, _, _ => none
  | n + 1, x1, x4, w => b_X9_lay_25 (f_X9_lay_25 n) x1 x4 w
def F_X9_lay (x1 : Int32) (x2 : Int32) (x3 : Int32) (w : GW) : Option GW := ((F_X9_isTray w x1).bind fun q1 => (if q1 = 0 then (some w) else (if gin x1 4 then (f_X9_lay_25 FU x1 (0 : Int32) (gI (gI w 6 x1.toNatClampNeg x2) 7 x1.toNatClampNeg x3)) else none)))
def F_X9_cut (x0 : Int64) (x2 : Int32) : Option Int64 := (if x2 = (0 : Int32) then (some x0.toInt32.toInt8.toInt32.toInt64) else (if x2 = (1 : Int32) then (some x0.toInt32.toInt16.toInt32.toInt64) else (if x2 = (2 : Int32) then (some x0.toInt32.toInt64) else (some x0))))
def F_X9_put (x1 : Int32) (x2 : Int32) (x3 : Int64) (w : GW) : Option GW := ((F_X9_hasFrom w x1 x2 (1 : Int32)).bind fun q1 => (if q1 = 0 then (some w) else (if gin x1 4 then (if gin x1 4 then ((F_X9_cut x3 (w.1 6 x1.toNatClampNeg)).bind fun q6 => (if gin x2 60 then (some (gL w (2 + x1.toNatClampNeg) x2.toNatClampNeg q6)) else none)) else none) else none)))
def F_X9_at (w : GW) (x1 : Int32) (x2 : Int32) : Option Int64 := ((F_X9_hasFrom w x1 x2 (1 : Int32)).bind fun q1 => (if q1 = 0 then (some (0 : Int64)) else (if gin x1 4 then (if gin x2 60 then (some (w.2 (2 + x1.toNatClampNeg) x2.toNatClampNeg)) else none) else none)))
def F_X9_shift (x1 : Int32) (x2 : Int32) (x3 : Int32) (x4 : Int32) (x5 : Int32) (w : GW) : Option GW := ((F_X9_hasFrom w x1 x2 x5).bind fun q1 => (if q1 = 0 then (some w) else ((F_X9_hasFrom w x3 x4 x5).bind fun q3 => (if q3 = 0 then (some w) else (if gin x1 4 then (if gin x3 4 then (if ¬ x2 < 0 ∧ ¬ x4 < 0 ∧ ¬ x5 < 0 ∧ x2.toNatClampNeg + x5.toNatClampNeg ≤ 60 ∧ x4.toNatClampNeg + x5.toNatClampNeg ≤ 60 then (some (gcpL w (2 + x1.toNatClampNeg) (2 + x3.toNatClampNeg) x2.toNatClampNeg x4.toNatClampNeg x5.toNatClampNeg)) else none) else none) else none)))))
def b_X9_whyNoTwos_46 (k46 : Int32 → Int32 → Int32 → Option Int32) (w : GW) (x1 : Int32) (x2 : Int32) (x3 : Int32) : Option Int32 := (if ((2 : Int32) * x2) ≤ x3 then (some (0 : Int32)) else ((F_X9_at w x1 x3).bind fun q10 => (if (lg_cmp q10 (0 : Int64)) < 0 then (some (5 : Int32)) else ((F_X9_at w x1 x3).bind fun q12 => (if (lg_cmp q12 (99 : Int64)) ≤ 0 then (k46 x1 x2 (x3 + (1 : Int32))) else (some (5 : Int32)))))))
def f_X9_whyNoTwos_46 (w : GW) : Nat → Int32 → Int32 → Int32 → Option Int32
  | 0, _, _, _ => none
  | n + 1, x1, x2, x3 => b_X9_whyNoTwos_46 (f_X9_whyNoTwos_46 w n) w x1 x2 x3
def F_X9_whyNoTwos (w : GW) (x1 : Int32) (x2 : Int32) : Option Int32 := ((F_X9_isTray w x1).bind fun q1 => (if q1 = 0 then (some (1 : Int32)) else (if x2 < 0 then (some (1 : Int32)) else (if x2 ≤ (20 : Int32) then ((F_X9_isThere w x1).bind fun q5 => (if q5 = 0 then (some (2 : Int32)) else ((F_X9_hasFrom w x1 (0 : Int32) ((2 : Int32) * x2)).bind fun q7 => (if q7 = 0 then (some (3 : Int32)) else (f_X9_whyNoTwos_46 w FU x1 x2 (0 : Int32)))))) else (some (1 : Int32))))))
def f_X9_fittingStills_70 (k18 : Int32 → Int32 → Int32 → Int32 → Int32 → Int32 → Option Int32) (w : GW) (x1 : Int32) (x2 : Int32) (x3 : Int32) (x4 : Int32) (x6 : Int32) (s0 : Int32) : Option Int32 := (k18 x1 x2 x3 x4 s0 (x6 + (1 : Int32)))
def f_X9_fittingStills_69 (k18 : Int32 → Int32 → Int32 → Int32 → Int32 → Int32 → Option Int32) (w : GW) (x1 : Int32) (x2 : Int32) (x3 : Int32) (x4 : Int32) (x6 : Int32) : Option Int32 := (f_X9_fittingStills_70 k18 w x1 x2 x3 x4 x6 (0 : Int32))
def f_X9_fittingStills_90 (k5 : Int32 → Int32 → Int32 → Int32 → Option Int32) (w : GW) (x1 : Int32) (x2 : Int32) (x3 : Int32) (x4 : Int32) : Option Int32 := (k5 x1 x2 x3 (x4 + (1 : Int32)))
def b_X9_fittingStills_18 (k5 : Int32 → Int32 → Int32 → Int32 → Option Int32) (k18 : Int32 → Int32 → Int32 → Int32 → Int32 → Int32 → Option Int32) (w : GW) (x1 : Int32) (x2 : Int32) (x3 : Int32) (x4 : Int32) (x5 : Int32) (x6 : Int32) : Option Int32 := (if x2 ≤ x6 then (if x5 = 0 then (f_X9_fittingStills_90 k5 w x1 x2 x3 x4) else (f_X9_fittingStills_90 k5 w x1 x2 (x3 ||| ((1 : Int32) <<< (x4 &&& 31))) x4)) else ((F_X9_at w x1 ((2 : Int32) * x6)).bind fun q4 => (if x5 = 0 then (f_X9_fittingStills_69 k18 w x1 x2 x3 x4 x6) else ((F_X10_greyGrown (0 : Int32) x4 q4.toInt32).bind fun q6 => ((F_X9_at w x1 (((2 : Int32) * x6) + (1 : Int32))).bind fun q7 => (if (lg_cmp q6.toInt64 q7) = 0 then (f_X9_fittingStills_70 k18 w x1 x2 x3 x4 x6 (1 : Int32)) else (f_X9_fittingStills_69 k18 w x1 x2 x3 x4 x6)))))))
def f_X9_fittingStills_18 (k5 : Int32 → Int32 → Int32 → Int32 → Option Int32) (w : GW) : Nat → Int32 → Int32 → Int32 → Int32 → Int32 → Int32 → Option Int32
  | 0, _, _, _, _, _, _ => none
  | n + 1, x1, x2, x3, x4, x5, x6 => b_X9_fittingStills_18 k5 (f_X9_fittingStills_18 k5 w n) w x1 x2 x3 x4 x5 x6
def b_X9_fittingStills_5 (k5 : Int32 → Int32 → Int32 → Int32 → Option Int32) (w : GW) (x1 : Int32) (x2 : Int32) (x3 : Int32) (x4 : Int32) : Option Int32 := (if (9 : Int32) < x4 then (some x3) else (f_X9_fittingStills_18 k5 w FU x1 x2 x3 x4 (1 : Int32) (0 : Int32)))
def f_X9_fittingStills_5 (w : GW) : Nat → Int32 → Int32 → Int32 → Int32 → Option Int32
  | 0, _, _, _, _ => none
  | n + 1, x1, x2, x3, x4 => b_X9_fittingStills_5 (f_X9_fittingStills_5 w n) w x1 x2 x3 x4
def F_X9_fittingStills (w : GW) (x1 : Int32) (x2 : Int32) : Option Int32 := (f_X9_fittingStills_5 w FU x1 x2 (0 : Int32) (0 : Int32))
set_option maxHeartbeats 4000000 in
set_option maxRecDepth 100000 in
theorem c_X9_isTray (l : Launch) (D : va_G) (cA ad : Nat → Nat) (hin : gInj ad shTr.length) (w : GW) (x1 : Int32) (q : Int32) (hf : F_X9_isTray w x1 = some q) : gMet l yX9_isTray cX9_isTray 2 (some .boolean) 1 120 D cA ad shTr [.ref 0, .int x1] w (some (.int q)) w := by
  refine g_entry (by decide) hin (Nat.le_of_ble_eq_true rfl) ?_
  intro p e s m args below meth c C
  unfold F_X9_isTray at hf
  show gW p l e (gRm 1 120) s m args below meth c D cA ad shTr 2 0 0 (gQ below D cA ad shTr (some (.int q)) w args s) 0 [(0, .ref 0), (1, .int x1)] [] w
  refine g_iload_n C (gdec dt_X9_isTray 0 rfl) (i := 1) rfl rfl ?_
  refine g_if_lt C (tgt := 13) (gdec dt_X9_isTray 1 rfl) (by decide) (fun hc1 => ?_) (fun hc1 => ?_)
  · have hf := (if_pos hc1).symm.trans hf
    refine g_iconst C (gdec dt_X9_isTray 7 rfl) ic_0 ?_
    cases hf
    exact g_zret C (Or.inl rfl) rfl (gdec dt_X9_isTray 8 rfl)
  · have hf := (if_neg hc1).symm.trans hf
    refine g_iload_n C (gdec dt_X9_isTray 2 rfl) (i := 1) rfl rfl ?_
    refine g_iconst C (gdec dt_X9_isTray 3 rfl) ic_4 ?_
    refine g_icmp_ge C (tgt := 13) (gdec dt_X9_isTray 4 rfl) (by decide) (fun hc2 => ?_) (fun hc2 => ?_)
    · have hf := (if_pos hc2).symm.trans hf
      refine g_iconst C (gdec dt_X9_isTray 7 rfl) ic_0 ?_
      cases hf
      exact g_zret C (Or.inl rfl) rfl (gdec dt_X9_isTray 8 rfl)
    · have hf := (if_neg hc2).symm.trans hf
      refine g_iconst C (gdec dt_X9_isTray 5 rfl) ic_1 ?_
      refine g_goto C (tgt := 14) (gdec dt_X9_isTray 6 rfl) (by decide) ?_
      cases hf
      exact g_zret C (Or.inr rfl) rfl (gdec dt_X9_isTray 8 rfl)
set_option maxHeartbeats 4000000 in
set_option maxRecDepth 100000 in
theorem c_X9_isThere (l : Launch) (D : va_G) (cA ad : Nat → Nat) (hin : gInj ad shTr.length) (w : GW) (x1 : Int32) (q : Int32) (hf : F_X9_isThere w x1 = some q) : gMet l yX9_isThere cX9_isThere 2 (some .boolean) 2 141 D cA ad shTr [.ref 0, .int x1] w (some (.int q)) w := by
  refine g_entry (by decide) hin (Nat.le_of_ble_eq_true rfl) ?_
  intro p e s m args below meth c C
  unfold F_X9_isThere at hf
  show gW p l e (gRm 2 141) s m args below meth c D cA ad shTr 2 0 0 (gQ below D cA ad shTr (some (.int q)) w args s) 0 [(0, .ref 0), (1, .int x1)] [] w
  refine g_aload_n C (gdec dt_X9_isThere 0 rfl) (i := 0) rfl rfl ?_
  refine g_iload_n C (gdec dt_X9_isThere 1 rfl) (i := 1) rfl rfl ?_
  obtain ⟨q1, hq1, hf⟩ := Option.bind_eq_some_iff.mp hf
  refine g_invV [.int x1] [] C (c_X9_isTray l D cA _ (gCi C) w x1 q1 hq1) kT_X9_isTray kl_X9_23 kim_X9_isTray kse_X9_isTray rfl rfl (i := 0) rfl rfl ⟨by decide, by decide⟩ gk0 (Nat.le_of_ble_eq_true rfl) (gdec dt_X9_isThere 2 rfl) rfl (st2 := [.int q1]) rfl ?_
  refine g_if_eq C (tgt := 22) (gdec dt_X9_isThere 3 rfl) (by decide) (fun hc2 => ?_) (fun hc2 => ?_)
  · have hf := (if_pos hc2).symm.trans hf
    refine g_iconst C (gdec dt_X9_isThere 12 rfl) ic_0 ?_
    cases hf
    exact g_zret C (Or.inl rfl) rfl (gdec dt_X9_isThere 13 rfl)
  · have hf := (if_neg hc2).symm.trans hf
    refine g_aload_n C (gdec dt_X9_isThere 4 rfl) (i := 0) rfl rfl ?_
    refine g_getr C (j := 6) kf_X9_16 rfl rfl (gdec dt_X9_isThere 5 rfl) ?_
    refine g_iload_n C (gdec dt_X9_isThere 6 rfl) (i := 1) rfl rfl ?_
    obtain ⟨hg3, hf⟩ := gif hf
    refine g_iald C (i := 6) rfl hg3 rfl (gdec dt_X9_isThere 7 rfl) ?_
    refine g_iconst C (gdec dt_X9_isThere 8 rfl) ic_m1 ?_
    refine g_icmp_eq C (tgt := 22) (gdec dt_X9_isThere 9 rfl) (by decide) (fun hc4 => ?_) (fun hc4 => ?_)
    · have hf := (if_pos hc4).symm.trans hf
      refine g_iconst C (gdec dt_X9_isThere 12 rfl) ic_0 ?_
      cases hf
      exact g_zret C (Or.inl rfl) rfl (gdec dt_X9_isThere 13 rfl)
    · have hf := (if_neg hc4).symm.trans hf
      refine g_iconst C (gdec dt_X9_isThere 10 rfl) ic_1 ?_
      refine g_goto C (tgt := 23) (gdec dt_X9_isThere 11 rfl) (by decide) ?_
      cases hf
      exact g_zret C (Or.inr rfl) rfl (gdec dt_X9_isThere 13 rfl)
set_option maxHeartbeats 4000000 in
set_option maxRecDepth 100000 in
theorem c_X9_areAlike (l : Launch) (D : va_G) (cA ad : Nat → Nat) (hin : gInj ad shTr.length) (w : GW) (x1 : Int32) (x2 : Int32) (q : Int32) (hf : F_X9_areAlike w x1 x2 = some q) : gMet l yX9_areAlike cX9_areAlike 3 (some .boolean) 2 141 D cA ad shTr [.ref 0, .int x1, .int x2] w (some (.int q)) w := by
  refine g_entry (by decide) hin (Nat.le_of_ble_eq_true rfl) ?_
  intro p e s m args below meth c C
  unfold F_X9_areAlike at hf
  show gW p l e (gRm 2 141) s m args below meth c D cA ad shTr 3 0 0 (gQ below D cA ad shTr (some (.int q)) w args s) 0 [(0, .ref 0), (1, .int x1), (2, .int x2)] [] w
  refine g_aload_n C (gdec dt_X9_areAlike 0 rfl) (i := 0) rfl rfl ?_
  refine g_iload_n C (gdec dt_X9_areAlike 1 rfl) (i := 1) rfl rfl ?_
  obtain ⟨q1, hq1, hf⟩ := Option.bind_eq_some_iff.mp hf
  refine g_invV [.int x1] [] C (c_X9_isTray l D cA _ (gCi C) w x1 q1 hq1) kT_X9_isTray kl_X9_23 kim_X9_isTray kse_X9_isTray rfl rfl (i := 0) rfl rfl ⟨by decide, by decide⟩ gk0 (Nat.le_of_ble_eq_true rfl) (gdec dt_X9_areAlike 2 rfl) rfl (st2 := [.int q1]) rfl ?_
  refine g_if_eq C (tgt := 35) (gdec dt_X9_areAlike 3 rfl) (by decide) (fun hc2 => ?_) (fun hc2 => ?_)
  · have hf := (if_pos hc2).symm.trans hf
    refine g_iconst C (gdec dt_X9_areAlike 19 rfl) ic_0 ?_
    cases hf
    exact g_zret C (Or.inl rfl) rfl (gdec dt_X9_areAlike 20 rfl)
  · have hf := (if_neg hc2).symm.trans hf
    refine g_aload_n C (gdec dt_X9_areAlike 4 rfl) (i := 0) rfl rfl ?_
    refine g_iload_n C (gdec dt_X9_areAlike 5 rfl) (i := 2) rfl rfl ?_
    obtain ⟨q3, hq3, hf⟩ := Option.bind_eq_some_iff.mp hf
    refine g_invV [.int x2] [] C (c_X9_isTray l D cA _ (gCi C) w x2 q3 hq3) kT_X9_isTray kl_X9_23 kim_X9_isTray kse_X9_isTray rfl rfl (i := 0) rfl rfl ⟨by decide, by decide⟩ gk0 (Nat.le_of_ble_eq_true rfl) (gdec dt_X9_areAlike 6 rfl) rfl (st2 := [.int q3]) rfl ?_
    refine g_if_eq C (tgt := 35) (gdec dt_X9_areAlike 7 rfl) (by decide) (fun hc4 => ?_) (fun hc4 => ?_)
    · have hf := (if_pos hc4).symm.trans hf
      refine g_iconst C (gdec dt_X9_areAlike 19 rfl) ic_0 ?_
      cases hf
      exact g_zret C (Or.inl rfl) rfl (gdec dt_X9_areAlike 20 rfl)
    · have hf := (if_neg hc4).symm.trans hf
      refine g_aload_n C (gdec dt_X9_areAlike 8 rfl) (i := 0) rfl rfl ?_
      refine g_getr C (j := 6) kf_X9_16 rfl rfl (gdec dt_X9_areAlike 9 rfl) ?_
      refine g_iload_n C (gdec dt_X9_areAlike 10 rfl) (i := 1) rfl rfl ?_
      obtain ⟨hg5, hf⟩ := gif hf
      refine g_iald C (i := 6) rfl hg5 rfl (gdec dt_X9_areAlike 11 rfl) ?_
      refine g_aload_n C (gdec dt_X9_areAlike 12 rfl) (i := 0) rfl rfl ?_
      refine g_getr C (j := 6) kf_X9_16 rfl rfl (gdec dt_X9_areAlike 13 rfl) ?_
      refine g_iload_n C (gdec dt_X9_areAlike 14 rfl) (i := 2) rfl rfl ?_
      obtain ⟨hg6, hf⟩ := gif hf
      refine g_iald C (i := 6) rfl hg6 rfl (gdec dt_X9_areAlike 15 rfl) ?_
      refine g_icmp_ne C (tgt := 35) (gdec dt_X9_areAlike 16 rfl) (by decide) (fun hc7 => ?_) (fun hc7 => ?_)
      · have hf := (if_neg hc7).symm.trans hf
        refine g_iconst C (gdec dt_X9_areAlike 19 rfl) ic_0 ?_
        cases hf
        exact g_zret C (Or.inl rfl) rfl (gdec dt_X9_areAlike 20 rfl)
      · have hf := (if_pos hc7).symm.trans hf
        refine g_iconst C (gdec dt_X9_areAlike 17 rfl) ic_1 ?_
        refine g_goto C (tgt := 36) (gdec dt_X9_areAlike 18 rfl) (by decide) ?_
        cases hf
        exact g_zret C (Or.inr rfl) rfl (gdec dt_X9_areAlike 20 rfl)
set_option maxHeartbeats 4000000 in
set_option maxRecDepth 100000 in
theorem c_X9_hasFrom (l : Launch) (D : va_G) (cA ad : Nat → Nat) (hin : gInj ad shTr.length) (w : GW) (x1 : Int32) (x2 : Int32) (x3 : Int32) (q : Int32) (hf : F_X9_hasFrom w x1 x2 x3 = some q) : gMet l yX9_hasFrom cX9_hasFrom 4 (some .boolean) 3 162 D cA ad shTr [.ref 0, .int x1, .int x2, .int x3] w (some (.int q)) w := by
  refine g_entry (by decide) hin (Nat.le_of_ble_eq_true rfl) ?_
  intro p e s m args below meth c C
  unfold F_X9_hasFrom at hf
  show gW p l e (gRm 3 162) s m args below meth c D cA ad shTr 4 0 0 (gQ below D cA ad shTr (some (.int q)) w args s) 0 [(0, .ref 0), (1, .int x1), (2, .int x2), (3, .int x3)] [] w
  refine g_aload_n C (gdec dt_X9_hasFrom 0 rfl) (i := 0) rfl rfl ?_
  refine g_iload_n C (gdec dt_X9_hasFrom 1 rfl) (i := 1) rfl rfl ?_
  obtain ⟨q1, hq1, hf⟩ := Option.bind_eq_some_iff.mp hf
  refine g_invV [.int x1] [] C (c_X9_isThere l D cA _ (gCi C) w x1 q1 hq1) kT_X9_isThere kl_X9_27 kim_X9_isThere kse_X9_isThere rfl rfl (i := 0) rfl rfl ⟨by decide, by decide⟩ gk0 (Nat.le_of_ble_eq_true rfl) (gdec dt_X9_hasFrom 2 rfl) rfl (st2 := [.int q1]) rfl ?_
  refine g_if_eq C (tgt := 42) (gdec dt_X9_hasFrom 3 rfl) (by decide) (fun hc2 => ?_) (fun hc2 => ?_)
  · have hf := (if_pos hc2).symm.trans hf
    refine g_iconst C (gdec dt_X9_hasFrom 24 rfl) ic_0 ?_
    cases hf
    exact g_zret C (Or.inl rfl) rfl (gdec dt_X9_hasFrom 25 rfl)
  · have hf := (if_neg hc2).symm.trans hf
    refine g_iload_n C (gdec dt_X9_hasFrom 4 rfl) (i := 2) rfl rfl ?_
    refine g_if_lt C (tgt := 42) (gdec dt_X9_hasFrom 5 rfl) (by decide) (fun hc3 => ?_) (fun hc3 => ?_)
    · have hf := (if_pos hc3).symm.trans hf
      refine g_iconst C (gdec dt_X9_hasFrom 24 rfl) ic_0 ?_
      cases hf
      exact g_zret C (Or.inl rfl) rfl (gdec dt_X9_hasFrom 25 rfl)
    · have hf := (if_neg hc3).symm.trans hf
      refine g_iload_n C (gdec dt_X9_hasFrom 6 rfl) (i := 3) rfl rfl ?_
      refine g_if_lt C (tgt := 42) (gdec dt_X9_hasFrom 7 rfl) (by decide) (fun hc4 => ?_) (fun hc4 => ?_)
      · have hf := (if_pos hc4).symm.trans hf
        refine g_iconst C (gdec dt_X9_hasFrom 24 rfl) ic_0 ?_
        cases hf
        exact g_zret C (Or.inl rfl) rfl (gdec dt_X9_hasFrom 25 rfl)
      · have hf := (if_neg hc4).symm.trans hf
        refine g_iload_n C (gdec dt_X9_hasFrom 8 rfl) (i := 2) rfl rfl ?_
        refine g_aload_n C (gdec dt_X9_hasFrom 9 rfl) (i := 0) rfl rfl ?_
        refine g_getr C (j := 7) kf_X9_20 rfl rfl (gdec dt_X9_hasFrom 10 rfl) ?_
        refine g_iload_n C (gdec dt_X9_hasFrom 11 rfl) (i := 1) rfl rfl ?_
        obtain ⟨hg5, hf⟩ := gif hf
        refine g_iald C (i := 7) rfl hg5 rfl (gdec dt_X9_hasFrom 12 rfl) ?_
        refine g_icmp_gt C (tgt := 42) (gdec dt_X9_hasFrom 13 rfl) (by decide) (fun hc6 => ?_) (fun hc6 => ?_)
        · have hf := (if_pos hc6).symm.trans hf
          refine g_iconst C (gdec dt_X9_hasFrom 24 rfl) ic_0 ?_
          cases hf
          exact g_zret C (Or.inl rfl) rfl (gdec dt_X9_hasFrom 25 rfl)
        · have hf := (if_neg hc6).symm.trans hf
          refine g_iload_n C (gdec dt_X9_hasFrom 14 rfl) (i := 3) rfl rfl ?_
          refine g_aload_n C (gdec dt_X9_hasFrom 15 rfl) (i := 0) rfl rfl ?_
          refine g_getr C (j := 7) kf_X9_20 rfl rfl (gdec dt_X9_hasFrom 16 rfl) ?_
          refine g_iload_n C (gdec dt_X9_hasFrom 17 rfl) (i := 1) rfl rfl ?_
          refine g_iald C (i := 7) rfl hg5 rfl (gdec dt_X9_hasFrom 18 rfl) ?_
          refine g_iload_n C (gdec dt_X9_hasFrom 19 rfl) (i := 2) rfl rfl ?_
          refine g_isub C (gdec dt_X9_hasFrom 20 rfl) ?_
          refine g_icmp_gt C (tgt := 42) (gdec dt_X9_hasFrom 21 rfl) (by decide) (fun hc7 => ?_) (fun hc7 => ?_)
          · have hf := (if_pos hc7).symm.trans hf
            refine g_iconst C (gdec dt_X9_hasFrom 24 rfl) ic_0 ?_
            cases hf
            exact g_zret C (Or.inl rfl) rfl (gdec dt_X9_hasFrom 25 rfl)
          · have hf := (if_neg hc7).symm.trans hf
            refine g_iconst C (gdec dt_X9_hasFrom 22 rfl) ic_1 ?_
            refine g_goto C (tgt := 43) (gdec dt_X9_hasFrom 23 rfl) (by decide) ?_
            cases hf
            exact g_zret C (Or.inr rfl) rfl (gdec dt_X9_hasFrom 25 rfl)
set_option maxHeartbeats 4000000 in
set_option maxRecDepth 100000 in
theorem c_X9_whyNot (l : Launch) (D : va_G) (cA ad : Nat → Nat) (hin : gInj ad shTr.length) (w : GW) (x1 : Int32) (x2 : Int32) (q : Int32) (hf : F_X9_whyNot w x1 x2 = some q) : gMet l yX9_whyNot cX9_whyNot 3 (some .int) 4 185 D cA ad shTr [.ref 0, .int x1, .int x2] w (some (.int q)) w := by
  refine g_entry (by decide) hin (Nat.le_of_ble_eq_true rfl) ?_
  intro p e s m args below meth c C
  unfold F_X9_whyNot at hf
  show gW p l e (gRm 4 185) s m args below meth c D cA ad shTr 3 0 0 (gQ below D cA ad shTr (some (.int q)) w args s) 0 [(0, .ref 0), (1, .int x1), (2, .int x2)] [] w
  refine g_aload_n C (gdec dt_X9_whyNot 0 rfl) (i := 0) rfl rfl ?_
  refine g_iload_n C (gdec dt_X9_whyNot 1 rfl) (i := 1) rfl rfl ?_
  obtain ⟨q1, hq1, hf⟩ := Option.bind_eq_some_iff.mp hf
  refine g_invV [.int x1] [] C (c_X9_isTray l D cA _ (gCi C) w x1 q1 hq1) kT_X9_isTray kl_X9_23 kim_X9_isTray kse_X9_isTray rfl rfl (i := 0) rfl rfl ⟨by decide, by decide⟩ gk0 (Nat.le_of_ble_eq_true rfl) (gdec dt_X9_whyNot 2 rfl) rfl (st2 := [.int q1]) rfl ?_
  refine g_if_ne C (tgt := 10) (gdec dt_X9_whyNot 3 rfl) (by decide) (fun hc2 => ?_) (fun hc2 => ?_)
  · have hf := (if_neg hc2).symm.trans hf
    refine g_aload_n C (gdec dt_X9_whyNot 6 rfl) (i := 0) rfl rfl ?_
    refine g_iload_n C (gdec dt_X9_whyNot 7 rfl) (i := 1) rfl rfl ?_
    obtain ⟨q3, hq3, hf⟩ := Option.bind_eq_some_iff.mp hf
    refine g_invV [.int x1] [] C (c_X9_isThere l D cA _ (gCi C) w x1 q3 hq3) kT_X9_isThere kl_X9_27 kim_X9_isThere kse_X9_isThere rfl rfl (i := 0) rfl rfl ⟨by decide, by decide⟩ gk0 (Nat.le_of_ble_eq_true rfl) (gdec dt_X9_whyNot 8 rfl) rfl (st2 := [.int q3]) rfl ?_
    refine g_if_ne C (tgt := 20) (gdec dt_X9_whyNot 9 rfl) (by decide) (fun hc4 => ?_) (fun hc4 => ?_)
    · have hf := (if_neg hc4).symm.trans hf
      refine g_aload_n C (gdec dt_X9_whyNot 12 rfl) (i := 0) rfl rfl ?_
      refine g_iload_n C (gdec dt_X9_whyNot 13 rfl) (i := 1) rfl rfl ?_
      refine g_iload_n C (gdec dt_X9_whyNot 14 rfl) (i := 2) rfl rfl ?_
      refine g_iconst C (gdec dt_X9_whyNot 15 rfl) ic_1 ?_
      obtain ⟨q5, hq5, hf⟩ := Option.bind_eq_some_iff.mp hf
      refine g_invV [.int x1, .int x2, .int (1 : Int32)] [] C (c_X9_hasFrom l D cA _ (gCi C) w x1 x2 (1 : Int32) q5 hq5) kT_X9_hasFrom kl_X9_30 kim_X9_hasFrom kse_X9_hasFrom rfl rfl (i := 0) rfl rfl ⟨by decide, by decide⟩ gk0 (Nat.le_of_ble_eq_true rfl) (gdec dt_X9_whyNot 16 rfl) rfl (st2 := [.int q5]) rfl ?_
      refine g_if_eq C (tgt := 34) (gdec dt_X9_whyNot 17 rfl) (by decide) (fun hc6 => ?_) (fun hc6 => ?_)
      · have hf := (if_pos hc6).symm.trans hf
        refine g_iconst C (gdec dt_X9_whyNot 20 rfl) ic_3 ?_
        cases hf
        exact g_iret C rfl (gdec dt_X9_whyNot 21 rfl)
      · have hf := (if_neg hc6).symm.trans hf
        refine g_iconst C (gdec dt_X9_whyNot 18 rfl) ic_0 ?_
        refine g_goto C (tgt := 35) (gdec dt_X9_whyNot 19 rfl) (by decide) ?_
        cases hf
        exact g_iret C rfl (gdec dt_X9_whyNot 21 rfl)
    · have hf := (if_pos hc4).symm.trans hf
      refine g_iconst C (gdec dt_X9_whyNot 10 rfl) ic_2 ?_
      cases hf
      exact g_iret C rfl (gdec dt_X9_whyNot 11 rfl)
  · have hf := (if_pos hc2).symm.trans hf
    refine g_iconst C (gdec dt_X9_whyNot 4 rfl) ic_1 ?_
    cases hf
    exact g_iret C rfl (gdec dt_X9_whyNot 5 rfl)
set_option maxHeartbeats 4000000 in
set_option maxRecDepth 100000 in
theorem Lb_X9_lay_25 {p : Program} {l : Launch} {e : Env} {s : State} {m : MethodId} {args : Array Value} {below : List Frame} {meth : Method} {c : Code} {D : va_G} {cA ad : Nat → Nat} {q : GW} (C : gC p c cX9_lay meth m s args 5 none RX9 D cA ad shTr) {k25 : Int32 → Int32 → GW → Option GW} (hk25 : ∀ (x1 : Int32) (x4 : Int32) (w : GW), k25 x1 x4 w = some q → gW p l e (gRm 2 141) s m args below meth c D cA ad shTr 5 0 0 (gQ below D cA ad shTr none q args s) 25 [(0, .ref 0), (1, .int x1), (4, .int x4)] [] w) (x1 : Int32) (x4 : Int32) (w : GW) (hf : b_X9_lay_25 k25 x1 x4 w = some q) : gW p l e (gRm 2 141) s m args below meth c D cA ad shTr 5 0 0 (gQ below D cA ad shTr none q args s) 25 [(0, .ref 0), (1, .int x1), (4, .int x4)] [] w := by
  unfold b_X9_lay_25 at hf
  refine g_iload C (gdec dt_X9_lay 16 rfl) rfl ?_
  refine g_bipush C (gdec dt_X9_lay 17 rfl) bc_60 ?_
  refine g_icmp_ge C (tgt := 48) (gdec dt_X9_lay 18 rfl) (by decide) (fun hc4 => ?_) (fun hc4 => ?_)
  · have hf := (if_pos hc4).symm.trans hf
    cases hf
    exact g_vret C rfl (gdec dt_X9_lay 28 rfl)
  · have hf := (if_neg hc4).symm.trans hf
    refine g_aload_n C (gdec dt_X9_lay 19 rfl) (i := 0) rfl rfl ?_
    refine g_getr C (j := 1) kf_X9_11 rfl rfl (gdec dt_X9_lay 20 rfl) ?_
    refine g_iload_n C (gdec dt_X9_lay 21 rfl) (i := 1) rfl rfl ?_
    obtain ⟨hg5, hf⟩ := gif hf
    obtain ⟨-, -, hr6a, hr6b⟩ := row_shTr _ (Nat.not_le.mp fun z => hg5 (Or.inr z))
    refine g_aald5 C (i := 1) rfl hg5 hr6a (gdec dt_X9_lay 22 rfl) ?_
    refine g_iload C (gdec dt_X9_lay 23 rfl) rfl ?_
    refine g_lconst C (gdec dt_X9_lay 24 rfl) lc_0 ?_
    obtain ⟨hg7, hf⟩ := gif hf
    refine g_last C hr6b hg7 rfl (gdec dt_X9_lay 25 rfl) ?_
    refine g_iinc C (gdec dt_X9_lay 26 rfl) (kk := 2) rfl (v := (x4 + (1 : Int32))) rfl (by decide) (lo2 := [(4, .int (x4 + (1 : Int32))), (0, .ref 0), (1, .int x1)]) rfl ?_
    refine g_goto C (tgt := 25) (gdec dt_X9_lay 27 rfl) (by decide) ?_
    refine g_sub [1, 2, 0] (lo2 := [(0, .ref 0), (1, .int x1), (4, .int (x4 + (1 : Int32)))]) rfl ?_
    exact hk25 x1 (x4 + (1 : Int32)) (gL w (2 + x1.toNatClampNeg) x4.toNatClampNeg (0 : Int64)) hf
theorem L_X9_lay_25 {p : Program} {l : Launch} {e : Env} {s : State} {m : MethodId} {args : Array Value} {below : List Frame} {meth : Method} {c : Code} {D : va_G} {cA ad : Nat → Nat} {q : GW} (C : gC p c cX9_lay meth m s args 5 none RX9 D cA ad shTr) : ∀ (n : Nat) (x1 : Int32) (x4 : Int32) (w : GW), f_X9_lay_25 n x1 x4 w = some q → gW p l e (gRm 2 141) s m args below meth c D cA ad shTr 5 0 0 (gQ below D cA ad shTr none q args s) 25 [(0, .ref 0), (1, .int x1), (4, .int x4)] [] w := by
  intro n
  induction n with
  | zero => intro _ _ _ hf; cases hf
  | succ n ih => intro x1 x4 w hf; exact Lb_X9_lay_25 C ih x1 x4 w hf
set_option maxHeartbeats 4000000 in
set_option maxRecDepth 100000 in
theorem c_X9_lay (l : Launch) (D : va_G) (cA ad : Nat → Nat) (hin : gInj ad shTr.length) (w : GW) (x1 : Int32) (x2 : Int32) (x3 : Int32) (q : GW) (hf : F_X9_lay x1 x2 x3 w = some q) : gMet l yX9_lay cX9_lay 5 none 2 141 D cA ad shTr [.ref 0, .int x1, .int x2, .int x3] w none q := by
  refine g_entry (by decide) hin (Nat.le_of_ble_eq_true rfl) ?_
  intro p e s m args below meth c C
  unfold F_X9_lay at hf
  show gW p l e (gRm 2 141) s m args below meth c D cA ad shTr 5 0 0 (gQ below D cA ad shTr none q args s) 0 [(0, .ref 0), (1, .int x1), (2, .int x2), (3, .int x3)] [] w
  refine g_aload_n C (gdec dt_X9_lay 0 rfl) (i := 0) rfl rfl ?_
  refine g_iload_n C (gdec dt_X9_lay 1 rfl) (i := 1) rfl rfl ?_
  obtain ⟨q1, hq1, hf⟩ := Option.bind_eq_some_iff.mp hf
  refine g_invV [.int x1] [] C (c_X9_isTray l D cA _ (gCi C) w x1 q1 hq1) kT_X9_isTray kl_X9_23 kim_X9_isTray kse_X9_isTray rfl rfl (i := 0) rfl rfl ⟨by decide, by decide⟩ gk0 (Nat.le_of_ble_eq_true rfl) (gdec dt_X9_lay 2 rfl) rfl (st2 := [.int q1]) rfl ?_
  refine g_if_eq C (tgt := 48) (gdec dt_X9_lay 3 rfl) (by decide) (fun hc2 => ?_) (fun hc2 => ?_)
  · have hf := (if_pos hc2).symm.trans hf
    cases hf
    exact g_vret C rfl (gdec dt_X9_lay 28 rfl)
  · have hf := (if_neg hc2).symm.trans hf
    refine g_aload_n C (gdec dt_X9_lay 4 rfl) (i := 0) rfl rfl ?_
    refine g_getr C (j := 6) kf_X9_16 rfl rfl (gdec dt_X9_lay 5 rfl) ?_
    refine g_iload_n C (gdec dt_X9_lay 6 rfl) (i := 1) rfl rfl ?_
    refine g_iload_n C (gdec dt_X9_lay 7 rfl) (i := 2) rfl rfl ?_
    obtain ⟨hg3, hf⟩ := gif hf
    refine g_iast C (i := 6) rfl hg3 rfl (gdec dt_X9_lay 8 rfl) ?_
    refine g_aload_n C (gdec dt_X9_lay 9 rfl) (i := 0) rfl rfl ?_
    refine g_getr C (j := 7) kf_X9_20 rfl rfl (gdec dt_X9_lay 10 rfl) ?_
    refine g_iload_n C (gdec dt_X9_lay 11 rfl) (i := 1) rfl rfl ?_
    refine g_iload_n C (gdec dt_X9_lay 12 rfl) (i := 3) rfl rfl ?_
    refine g_iast C (i := 7) rfl hg3 rfl (gdec dt_X9_lay 13 rfl) ?_
    refine g_iconst C (gdec dt_X9_lay 14 rfl) ic_0 ?_
    refine g_istore C (gdec dt_X9_lay 15 rfl) (by decide) (lo2 := [(4, .int (0 : Int32)), (0, .ref 0), (1, .int x1), (2, .int x2), (3, .int x3)]) rfl ?_
    refine g_sub [1, 2, 0] (lo2 := [(0, .ref 0), (1, .int x1), (4, .int (0 : Int32))]) rfl ?_
    exact L_X9_lay_25 C FU x1 (0 : Int32) (gI (gI w 6 x1.toNatClampNeg x2) 7 x1.toNatClampNeg x3) hf
set_option maxHeartbeats 4000000 in
set_option maxRecDepth 100000 in
theorem c_X9_cut (l : Launch) (D : va_G) (cA ad : Nat → Nat) (hin : gInj ad shE.length) (w : GW) (x0 : Int64) (x2 : Int32) (q : Int64) (hf : F_X9_cut x0 x2 = some q) : gMet l yX9_cut cX9_cut 3 (some .long) 1 120 D cA ad shE [.long x0, .int x2] w (some (.long q)) w := by
  refine g_entry (by decide) hin (Nat.le_of_ble_eq_true rfl) ?_
  intro p e s m args below meth c C
  unfold F_X9_cut at hf
  show gW p l e (gRm 1 120) s m args below meth c D cA ad shE 3 0 0 (gQ below D cA ad shE (some (.long q)) w args s) 0 [(0, .long x0), (2, .int x2)] [] w
  refine g_iload_n C (gdec dt_X9_cut 0 rfl) (i := 2) rfl rfl ?_
  by_cases hc1 : x2 = (0 : Int32)
  · have hf := (if_pos hc1).symm.trans hf
    refine g_tableIn C (tgt := 28) (off := 27) (gdec dt_X9_cut 1 rfl) (by rw [hc1]; decide) (by rw [hc1]; decide) (by rw [hc1]; decide) (by decide) ?_
    refine g_lload_n C (gdec dt_X9_cut 2 rfl) (i := 0) rfl rfl ?_
    refine g_l2i C (gdec dt_X9_cut 3 rfl) ?_
    refine g_i2b C (gdec dt_X9_cut 4 rfl) ?_
    refine g_i2l C (gdec dt_X9_cut 5 rfl) ?_
    cases hf
    exact g_lret C rfl (gdec dt_X9_cut 6 rfl)
  replace hf := (if_neg hc1).symm.trans hf
  by_cases hc2 : x2 = (1 : Int32)
  · have hf := (if_pos hc2).symm.trans hf
    refine g_tableIn C (tgt := 33) (off := 32) (gdec dt_X9_cut 1 rfl) (by rw [hc2]; decide) (by rw [hc2]; decide) (by rw [hc2]; decide) (by decide) ?_
    refine g_lload_n C (gdec dt_X9_cut 7 rfl) (i := 0) rfl rfl ?_
    refine g_l2i C (gdec dt_X9_cut 8 rfl) ?_
    refine g_i2s C (gdec dt_X9_cut 9 rfl) ?_
    refine g_i2l C (gdec dt_X9_cut 10 rfl) ?_
    cases hf
    exact g_lret C rfl (gdec dt_X9_cut 11 rfl)
  replace hf := (if_neg hc2).symm.trans hf
  by_cases hc3 : x2 = (2 : Int32)
  · have hf := (if_pos hc3).symm.trans hf
    refine g_tableIn C (tgt := 38) (off := 37) (gdec dt_X9_cut 1 rfl) (by rw [hc3]; decide) (by rw [hc3]; decide) (by rw [hc3]; decide) (by decide) ?_
    refine g_lload_n C (gdec dt_X9_cut 12 rfl) (i := 0) rfl rfl ?_
    refine g_l2i C (gdec dt_X9_cut 13 rfl) ?_
    refine g_i2l C (gdec dt_X9_cut 14 rfl) ?_
    cases hf
    exact g_lret C rfl (gdec dt_X9_cut 15 rfl)
  replace hf := (if_neg hc3).symm.trans hf
  refine g_tableOut C (tgt := 42) (gdec dt_X9_cut 1 rfl) (gtsw_out (fun j hj => ?_)) (by decide) ?_
  · match j, hj with
    | 0, _ => exact lv_neT hc1 (by decide)
    | 1, _ => exact lv_neT hc2 (by decide)
    | 2, _ => exact lv_neT hc3 (by decide)
    | j + 3, hj => exact absurd hj (by simp)
  refine g_lload_n C (gdec dt_X9_cut 16 rfl) (i := 0) rfl rfl ?_
  cases hf
  exact g_lret C rfl (gdec dt_X9_cut 17 rfl)
set_option maxHeartbeats 4000000 in
set_option maxRecDepth 100000 in
theorem c_X9_put (l : Launch) (D : va_G) (cA ad : Nat → Nat) (hin : gInj ad shTr.length) (w : GW) (x1 : Int32) (x2 : Int32) (x3 : Int64) (q : GW) (hf : F_X9_put x1 x2 x3 w = some q) : gMet l yX9_put cX9_put 5 none 4 185 D cA ad shTr [.ref 0, .int x1, .int x2, .long x3] w none q := by
  refine g_entry (by decide) hin (Nat.le_of_ble_eq_true rfl) ?_
  intro p e s m args below meth c C
  unfold F_X9_put at hf
  show gW p l e (gRm 4 185) s m args below meth c D cA ad shTr 5 0 0 (gQ below D cA ad shTr none q args s) 0 [(0, .ref 0), (1, .int x1), (2, .int x2), (3, .long x3)] [] w
  refine g_aload_n C (gdec dt_X9_put 0 rfl) (i := 0) rfl rfl ?_
  refine g_iload_n C (gdec dt_X9_put 1 rfl) (i := 1) rfl rfl ?_
  refine g_iload_n C (gdec dt_X9_put 2 rfl) (i := 2) rfl rfl ?_
  refine g_iconst C (gdec dt_X9_put 3 rfl) ic_1 ?_
  obtain ⟨q1, hq1, hf⟩ := Option.bind_eq_some_iff.mp hf
  refine g_invV [.int x1, .int x2, .int (1 : Int32)] [] C (c_X9_hasFrom l D cA _ (gCi C) w x1 x2 (1 : Int32) q1 hq1) kT_X9_hasFrom kl_X9_30 kim_X9_hasFrom kse_X9_hasFrom rfl rfl (i := 0) rfl rfl ⟨by decide, by decide⟩ gk0 (Nat.le_of_ble_eq_true rfl) (gdec dt_X9_put 4 rfl) rfl (st2 := [.int q1]) rfl ?_
  refine g_if_eq C (tgt := 28) (gdec dt_X9_put 5 rfl) (by decide) (fun hc2 => ?_) (fun hc2 => ?_)
  · have hf := (if_pos hc2).symm.trans hf
    cases hf
    exact g_vret C rfl (gdec dt_X9_put 18 rfl)
  · have hf := (if_neg hc2).symm.trans hf
    refine g_aload_n C (gdec dt_X9_put 6 rfl) (i := 0) rfl rfl ?_
    refine g_getr C (j := 1) kf_X9_11 rfl rfl (gdec dt_X9_put 7 rfl) ?_
    refine g_iload_n C (gdec dt_X9_put 8 rfl) (i := 1) rfl rfl ?_
    obtain ⟨hg3, hf⟩ := gif hf
    obtain ⟨-, -, hr4a, hr4b⟩ := row_shTr _ (Nat.not_le.mp fun z => hg3 (Or.inr z))
    refine g_aald5 C (i := 1) rfl hg3 hr4a (gdec dt_X9_put 9 rfl) ?_
    refine g_iload_n C (gdec dt_X9_put 10 rfl) (i := 2) rfl rfl ?_
    refine g_lload_n C (gdec dt_X9_put 11 rfl) (i := 3) rfl rfl ?_
    refine g_aload_n C (gdec dt_X9_put 12 rfl) (i := 0) rfl rfl ?_
    refine g_getr C (j := 6) kf_X9_16 rfl rfl (gdec dt_X9_put 13 rfl) ?_
    refine g_iload_n C (gdec dt_X9_put 14 rfl) (i := 1) rfl rfl ?_
    obtain ⟨hg5, hf⟩ := gif hf
    refine g_iald C (i := 6) rfl hg5 rfl (gdec dt_X9_put 15 rfl) ?_
    obtain ⟨q6, hq6, hf⟩ := Option.bind_eq_some_iff.mp hf
    refine g_invSs e_nil [.long x3, .int (w.1 6 x1.toNatClampNeg)] [.int x2, .ref (2 + x1.toNatClampNeg)] C (c_X9_cut l D cA _ (gInj_sub em_e_nil_shTr (gCi C)) (gsub w e_nil) x3 (w.1 6 x1.toNatClampNeg) q6 hq6) em_e_nil_shTr (by decide) rfl kT_X9_cut kl_X9_34 kst_X9_cut rfl rfl ⟨by decide, by decide⟩ gk0 (Nat.le_of_ble_eq_true rfl) (gdec dt_X9_put 16 rfl) rfl (st2 := [.long q6, .int x2, .ref (2 + x1.toNatClampNeg)]) (w2 := w) rfl (gput_sub _ _) ?_
    obtain ⟨hg7, hf⟩ := gif hf
    refine g_last C hr4b hg7 rfl (gdec dt_X9_put 17 rfl) ?_
    cases hf
    exact g_vret C rfl (gdec dt_X9_put 18 rfl)
set_option maxHeartbeats 4000000 in
set_option maxRecDepth 100000 in
theorem c_X9_at (l : Launch) (D : va_G) (cA ad : Nat → Nat) (hin : gInj ad shTr.length) (w : GW) (x1 : Int32) (x2 : Int32) (q : Int64) (hf : F_X9_at w x1 x2 = some q) : gMet l yX9_at cX9_at 3 (some .long) 4 185 D cA ad shTr [.ref 0, .int x1, .int x2] w (some (.long q)) w := by
  refine g_entry (by decide) hin (Nat.le_of_ble_eq_true rfl) ?_
  intro p e s m args below meth c C
  unfold F_X9_at at hf
  show gW p l e (gRm 4 185) s m args below meth c D cA ad shTr 3 0 0 (gQ below D cA ad shTr (some (.long q)) w args s) 0 [(0, .ref 0), (1, .int x1), (2, .int x2)] [] w
  refine g_aload_n C (gdec dt_X9_at 0 rfl) (i := 0) rfl rfl ?_
  refine g_iload_n C (gdec dt_X9_at 1 rfl) (i := 1) rfl rfl ?_
  refine g_iload_n C (gdec dt_X9_at 2 rfl) (i := 2) rfl rfl ?_
  refine g_iconst C (gdec dt_X9_at 3 rfl) ic_1 ?_
  obtain ⟨q1, hq1, hf⟩ := Option.bind_eq_some_iff.mp hf
  refine g_invV [.int x1, .int x2, .int (1 : Int32)] [] C (c_X9_hasFrom l D cA _ (gCi C) w x1 x2 (1 : Int32) q1 hq1) kT_X9_hasFrom kl_X9_30 kim_X9_hasFrom kse_X9_hasFrom rfl rfl (i := 0) rfl rfl ⟨by decide, by decide⟩ gk0 (Nat.le_of_ble_eq_true rfl) (gdec dt_X9_at 4 rfl) rfl (st2 := [.int q1]) rfl ?_
  refine g_if_eq C (tgt := 21) (gdec dt_X9_at 5 rfl) (by decide) (fun hc2 => ?_) (fun hc2 => ?_)
  · have hf := (if_pos hc2).symm.trans hf
    refine g_lconst C (gdec dt_X9_at 13 rfl) lc_0 ?_
    cases hf
    exact g_lret C rfl (gdec dt_X9_at 14 rfl)
  · have hf := (if_neg hc2).symm.trans hf
    refine g_aload_n C (gdec dt_X9_at 6 rfl) (i := 0) rfl rfl ?_
    refine g_getr C (j := 1) kf_X9_11 rfl rfl (gdec dt_X9_at 7 rfl) ?_
    refine g_iload_n C (gdec dt_X9_at 8 rfl) (i := 1) rfl rfl ?_
    obtain ⟨hg3, hf⟩ := gif hf
    obtain ⟨-, -, hr4a, hr4b⟩ := row_shTr _ (Nat.not_le.mp fun z => hg3 (Or.inr z))
    refine g_aald5 C (i := 1) rfl hg3 hr4a (gdec dt_X9_at 9 rfl) ?_
    refine g_iload_n C (gdec dt_X9_at 10 rfl) (i := 2) rfl rfl ?_
    obtain ⟨hg5, hf⟩ := gif hf
    refine g_lald C hr4b hg5 rfl (gdec dt_X9_at 11 rfl) ?_
    refine g_goto C (tgt := 22) (gdec dt_X9_at 12 rfl) (by decide) ?_
    cases hf
    exact g_lret C rfl (gdec dt_X9_at 14 rfl)
set_option maxHeartbeats 4000000 in
set_option maxRecDepth 100000 in
theorem c_X9_shift (l : Launch) (D : va_G) (cA ad : Nat → Nat) (hin : gInj ad shTr.length) (w : GW) (x1 : Int32) (x2 : Int32) (x3 : Int32) (x4 : Int32) (x5 : Int32) (q : GW) (hf : F_X9_shift x1 x2 x3 x4 x5 w = some q) : gMet l yX9_shift cX9_shift 6 none 4 185 D cA ad shTr [.ref 0, .int x1, .int x2, .int x3, .int x4, .int x5] w none q := by
  refine g_entry (by decide) hin (Nat.le_of_ble_eq_true rfl) ?_
  intro p e s m args below meth c C
  unfold F_X9_shift at hf
  show gW p l e (gRm 4 185) s m args below meth c D cA ad shTr 6 0 0 (gQ below D cA ad shTr none q args s) 0 [(0, .ref 0), (1, .int x1), (2, .int x2), (3, .int x3), (4, .int x4), (5, .int x5)] [] w
  refine g_aload_n C (gdec dt_X9_shift 0 rfl) (i := 0) rfl rfl ?_
  refine g_iload_n C (gdec dt_X9_shift 1 rfl) (i := 1) rfl rfl ?_
  refine g_iload_n C (gdec dt_X9_shift 2 rfl) (i := 2) rfl rfl ?_
  refine g_iload C (gdec dt_X9_shift 3 rfl) rfl ?_
  obtain ⟨q1, hq1, hf⟩ := Option.bind_eq_some_iff.mp hf
  refine g_invV [.int x1, .int x2, .int x5] [] C (c_X9_hasFrom l D cA _ (gCi C) w x1 x2 x5 q1 hq1) kT_X9_hasFrom kl_X9_30 kim_X9_hasFrom kse_X9_hasFrom rfl rfl (i := 0) rfl rfl ⟨by decide, by decide⟩ gk0 (Nat.le_of_ble_eq_true rfl) (gdec dt_X9_shift 4 rfl) rfl (st2 := [.int q1]) rfl ?_
  refine g_if_eq C (tgt := 43) (gdec dt_X9_shift 5 rfl) (by decide) (fun hc2 => ?_) (fun hc2 => ?_)
  · have hf := (if_pos hc2).symm.trans hf
    cases hf
    exact g_vret C rfl (gdec dt_X9_shift 24 rfl)
  · have hf := (if_neg hc2).symm.trans hf
    refine g_aload_n C (gdec dt_X9_shift 6 rfl) (i := 0) rfl rfl ?_
    refine g_iload_n C (gdec dt_X9_shift 7 rfl) (i := 3) rfl rfl ?_
    refine g_iload C (gdec dt_X9_shift 8 rfl) rfl ?_
    refine g_iload C (gdec dt_X9_shift 9 rfl) rfl ?_
    obtain ⟨q3, hq3, hf⟩ := Option.bind_eq_some_iff.mp hf
    refine g_invV [.int x3, .int x4, .int x5] [] C (c_X9_hasFrom l D cA _ (gCi C) w x3 x4 x5 q3 hq3) kT_X9_hasFrom kl_X9_30 kim_X9_hasFrom kse_X9_hasFrom rfl rfl (i := 0) rfl rfl ⟨by decide, by decide⟩ gk0 (Nat.le_of_ble_eq_true rfl) (gdec dt_X9_shift 10 rfl) rfl (st2 := [.int q3]) rfl ?_
    refine g_if_eq C (tgt := 43) (gdec dt_X9_shift 11 rfl) (by decide) (fun hc4 => ?_) (fun hc4 => ?_)
    · have hf := (if_pos hc4).symm.trans hf
      cases hf
      exact g_vret C rfl (gdec dt_X9_shift 24 rfl)
    · have hf := (if_neg hc4).symm.trans hf
      refine g_aload_n C (gdec dt_X9_shift 12 rfl) (i := 0) rfl rfl ?_
      refine g_getr C (j := 1) kf_X9_11 rfl rfl (gdec dt_X9_shift 13 rfl) ?_
      refine g_iload_n C (gdec dt_X9_shift 14 rfl) (i := 1) rfl rfl ?_
      obtain ⟨hg5, hf⟩ := gif hf
      obtain ⟨-, -, hr6a, hr6b⟩ := row_shTr _ (Nat.not_le.mp fun z => hg5 (Or.inr z))
      refine g_aald5 C (i := 1) rfl hg5 hr6a (gdec dt_X9_shift 15 rfl) ?_
      refine g_iload_n C (gdec dt_X9_shift 16 rfl) (i := 2) rfl rfl ?_
      refine g_aload_n C (gdec dt_X9_shift 17 rfl) (i := 0) rfl rfl ?_
      refine g_getr C (j := 1) kf_X9_11 rfl rfl (gdec dt_X9_shift 18 rfl) ?_
      refine g_iload_n C (gdec dt_X9_shift 19 rfl) (i := 3) rfl rfl ?_
      obtain ⟨hg7, hf⟩ := gif hf
      obtain ⟨-, -, hr8a, hr8b⟩ := row_shTr _ (Nat.not_le.mp fun z => hg7 (Or.inr z))
      refine g_aald5 C (i := 1) rfl hg7 hr8a (gdec dt_X9_shift 20 rfl) ?_
      refine g_iload C (gdec dt_X9_shift 21 rfl) rfl ?_
      refine g_iload C (gdec dt_X9_shift 22 rfl) rfl ?_
      obtain ⟨ha9, hf⟩ := gif hf
      refine g_cpL C (gdec dt_X9_shift 23 rfl) kl_X9_38 kac_native kac_static ki_System (i0 := (2 + x1.toNatClampNeg)) (i1 := (2 + x3.toNatClampNeg)) hr6b hr8b ha9.1 ha9.2.1 ha9.2.2.1 rfl rfl rfl ha9.2.2.2.1 ha9.2.2.2.2 (Nat.le_of_ble_eq_true rfl) ⟨by decide, by decide⟩ ?_
      cases hf
      exact g_vret C rfl (gdec dt_X9_shift 24 rfl)
set_option maxHeartbeats 4000000 in
set_option maxRecDepth 100000 in
theorem Lb_X9_whyNoTwos_46 {p : Program} {l : Launch} {e : Env} {s : State} {m : MethodId} {args : Array Value} {below : List Frame} {meth : Method} {c : Code} {D : va_G} {cA ad : Nat → Nat} {w : GW} {q : Int32} (C : gC p c cX9_whyNoTwos meth m s args 4 (some .int) RX9 D cA ad shTr) {k46 : Int32 → Int32 → Int32 → Option Int32} (hk46 : ∀ (x1 : Int32) (x2 : Int32) (x3 : Int32), k46 x1 x2 x3 = some q → gW p l e (gRm 5 207) s m args below meth c D cA ad shTr 4 0 0 (gQ below D cA ad shTr (some (.int q)) w args s) 46 [(0, .ref 0), (1, .int x1), (2, .int x2), (3, .int x3)] [] w) (x1 : Int32) (x2 : Int32) (x3 : Int32) (hf : b_X9_whyNoTwos_46 k46 w x1 x2 x3 = some q) : gW p l e (gRm 5 207) s m args below meth c D cA ad shTr 4 0 0 (gQ below D cA ad shTr (some (.int q)) w args s) 46 [(0, .ref 0), (1, .int x1), (2, .int x2), (3, .int x3)] [] w := by
  unfold b_X9_whyNoTwos_46 at hf
  refine g_iload_n C (gdec dt_X9_whyNoTwos 29 rfl) (i := 3) rfl rfl ?_
  refine g_iconst C (gdec dt_X9_whyNoTwos 30 rfl) ic_2 ?_
  refine g_iload_n C (gdec dt_X9_whyNoTwos 31 rfl) (i := 2) rfl rfl ?_
  refine g_imul C (gdec dt_X9_whyNoTwos 32 rfl) ?_
  refine g_icmp_ge C (tgt := 85) (gdec dt_X9_whyNoTwos 33 rfl) (by decide) (fun hc9 => ?_) (fun hc9 => ?_)
  · have hf := (if_pos hc9).symm.trans hf
    refine g_iconst C (gdec dt_X9_whyNoTwos 52 rfl) ic_0 ?_
    cases hf
    exact g_iret C rfl (gdec dt_X9_whyNoTwos 53 rfl)
  · have hf := (if_neg hc9).symm.trans hf
    refine g_aload_n C (gdec dt_X9_whyNoTwos 34 rfl) (i := 0) rfl rfl ?_
    refine g_iload_n C (gdec dt_X9_whyNoTwos 35 rfl) (i := 1) rfl rfl ?_
    refine g_iload_n C (gdec dt_X9_whyNoTwos 36 rfl) (i := 3) rfl rfl ?_
    obtain ⟨q10, hq10, hf⟩ := Option.bind_eq_some_iff.mp hf
    refine g_invV [.int x1, .int x3] [] C (c_X9_at l D cA _ (gCi C) w x1 x3 q10 hq10) kT_X9_at kl_X9_44 kim_X9_at kse_X9_at rfl rfl (i := 0) rfl rfl ⟨by decide, by decide⟩ gk0 (Nat.le_of_ble_eq_true rfl) (gdec dt_X9_whyNoTwos 37 rfl) rfl (st2 := [.long q10]) rfl ?_
    refine g_lconst C (gdec dt_X9_whyNoTwos 38 rfl) lc_0 ?_
    refine g_lcmp C (gdec dt_X9_whyNoTwos 39 rfl) ?_
    refine g_if_lt C (tgt := 77) (gdec dt_X9_whyNoTwos 40 rfl) (by decide) (fun hc11 => ?_) (fun hc11 => ?_)
    · have hf := (if_pos hc11).symm.trans hf
      refine g_iconst C (gdec dt_X9_whyNoTwos 48 rfl) ic_5 ?_
      cases hf
      exact g_iret C rfl (gdec dt_X9_whyNoTwos 49 rfl)
    · have hf := (if_neg hc11).symm.trans hf
      refine g_aload_n C (gdec dt_X9_whyNoTwos 41 rfl) (i := 0) rfl rfl ?_
      refine g_iload_n C (gdec dt_X9_whyNoTwos 42 rfl) (i := 1) rfl rfl ?_
      refine g_iload_n C (gdec dt_X9_whyNoTwos 43 rfl) (i := 3) rfl rfl ?_
      obtain ⟨q12, hq12, hf⟩ := Option.bind_eq_some_iff.mp hf
      refine g_invV [.int x1, .int x3] [] C (c_X9_at l D cA _ (gCi C) w x1 x3 q12 hq12) kT_X9_at kl_X9_44 kim_X9_at kse_X9_at rfl rfl (i := 0) rfl rfl ⟨by decide, by decide⟩ gk0 (Nat.le_of_ble_eq_true rfl) (gdec dt_X9_whyNoTwos 44 rfl) rfl (st2 := [.long q12]) rfl ?_
      refine g_ldc2 C kl2_X9_48 (gdec dt_X9_whyNoTwos 45 rfl) ?_
      refine g_lcmp C (gdec dt_X9_whyNoTwos 46 rfl) ?_
      refine g_if_le C (tgt := 79) (gdec dt_X9_whyNoTwos 47 rfl) (by decide) (fun hc13 => ?_) (fun hc13 => ?_)
      · have hf := (if_pos hc13).symm.trans hf
        refine g_iinc C (gdec dt_X9_whyNoTwos 50 rfl) (kk := 3) rfl (v := (x3 + (1 : Int32))) rfl (by decide) (lo2 := [(3, .int (x3 + (1 : Int32))), (0, .ref 0), (1, .int x1), (2, .int x2)]) rfl ?_
        refine g_goto C (tgt := 46) (gdec dt_X9_whyNoTwos 51 rfl) (by decide) ?_
        refine g_sub [1, 2, 3, 0] (lo2 := [(0, .ref 0), (1, .int x1), (2, .int x2), (3, .int (x3 + (1 : Int32)))]) rfl ?_
        exact hk46 x1 x2 (x3 + (1 : Int32)) hf
      · have hf := (if_neg hc13).symm.trans hf
        refine g_iconst C (gdec dt_X9_whyNoTwos 48 rfl) ic_5 ?_
        cases hf
        exact g_iret C rfl (gdec dt_X9_whyNoTwos 49 rfl)
theorem L_X9_whyNoTwos_46 {p : Program} {l : Launch} {e : Env} {s : State} {m : MethodId} {args : Array Value} {below : List Frame} {meth : Method} {c : Code} {D : va_G} {cA ad : Nat → Nat} {w : GW} {q : Int32} (C : gC p c cX9_whyNoTwos meth m s args 4 (some .int) RX9 D cA ad shTr) : ∀ (n : Nat) (x1 : Int32) (x2 : Int32) (x3 : Int32), f_X9_whyNoTwos_46 w n x1 x2 x3 = some q → gW p l e (gRm 5 207) s m args below meth c D cA ad shTr 4 0 0 (gQ below D cA ad shTr (some (.int q)) w args s) 46 [(0, .ref 0), (1, .int x1), (2, .int x2), (3, .int x3)] [] w := by
  intro n
  induction n with
  | zero => intro _ _ _ hf; cases hf
  | succ n ih => intro x1 x2 x3 hf; exact Lb_X9_whyNoTwos_46 C ih x1 x2 x3 hf
set_option maxHeartbeats 4000000 in
set_option maxRecDepth 100000 in
theorem c_X9_whyNoTwos (l : Launch) (D : va_G) (cA ad : Nat → Nat) (hin : gInj ad shTr.length) (w : GW) (x1 : Int32) (x2 : Int32) (q : Int32) (hf : F_X9_whyNoTwos w x1 x2 = some q) : gMet l yX9_whyNoTwos cX9_whyNoTwos 4 (some .int) 5 207 D cA ad shTr [.ref 0, .int x1, .int x2] w (some (.int q)) w := by
  refine g_entry (by decide) hin (Nat.le_of_ble_eq_true rfl) ?_
  intro p e s m args below meth c C
  unfold F_X9_whyNoTwos at hf
  show gW p l e (gRm 5 207) s m args below meth c D cA ad shTr 4 0 0 (gQ below D cA ad shTr (some (.int q)) w args s) 0 [(0, .ref 0), (1, .int x1), (2, .int x2)] [] w
  refine g_aload_n C (gdec dt_X9_whyNoTwos 0 rfl) (i := 0) rfl rfl ?_
  refine g_iload_n C (gdec dt_X9_whyNoTwos 1 rfl) (i := 1) rfl rfl ?_
  obtain ⟨q1, hq1, hf⟩ := Option.bind_eq_some_iff.mp hf
  refine g_invV [.int x1] [] C (c_X9_isTray l D cA _ (gCi C) w x1 q1 hq1) kT_X9_isTray kl_X9_23 kim_X9_isTray kse_X9_isTray rfl rfl (i := 0) rfl rfl ⟨by decide, by decide⟩ gk0 (Nat.le_of_ble_eq_true rfl) (gdec dt_X9_whyNoTwos 2 rfl) rfl (st2 := [.int q1]) rfl ?_
  refine g_if_eq C (tgt := 18) (gdec dt_X9_whyNoTwos 3 rfl) (by decide) (fun hc2 => ?_) (fun hc2 => ?_)
  · have hf := (if_pos hc2).symm.trans hf
    refine g_iconst C (gdec dt_X9_whyNoTwos 9 rfl) ic_1 ?_
    cases hf
    exact g_iret C rfl (gdec dt_X9_whyNoTwos 10 rfl)
  · have hf := (if_neg hc2).symm.trans hf
    refine g_iload_n C (gdec dt_X9_whyNoTwos 4 rfl) (i := 2) rfl rfl ?_
    refine g_if_lt C (tgt := 18) (gdec dt_X9_whyNoTwos 5 rfl) (by decide) (fun hc3 => ?_) (fun hc3 => ?_)
    · have hf := (if_pos hc3).symm.trans hf
      refine g_iconst C (gdec dt_X9_whyNoTwos 9 rfl) ic_1 ?_
      cases hf
      exact g_iret C rfl (gdec dt_X9_whyNoTwos 10 rfl)
    · have hf := (if_neg hc3).symm.trans hf
      refine g_iload_n C (gdec dt_X9_whyNoTwos 6 rfl) (i := 2) rfl rfl ?_
      refine g_bipush C (gdec dt_X9_whyNoTwos 7 rfl) bc_20 ?_
      refine g_icmp_le C (tgt := 20) (gdec dt_X9_whyNoTwos 8 rfl) (by decide) (fun hc4 => ?_) (fun hc4 => ?_)
      · have hf := (if_pos hc4).symm.trans hf
        refine g_aload_n C (gdec dt_X9_whyNoTwos 11 rfl) (i := 0) rfl rfl ?_
        refine g_iload_n C (gdec dt_X9_whyNoTwos 12 rfl) (i := 1) rfl rfl ?_
        obtain ⟨q5, hq5, hf⟩ := Option.bind_eq_some_iff.mp hf
        refine g_invV [.int x1] [] C (c_X9_isThere l D cA _ (gCi C) w x1 q5 hq5) kT_X9_isThere kl_X9_27 kim_X9_isThere kse_X9_isThere rfl rfl (i := 0) rfl rfl ⟨by decide, by decide⟩ gk0 (Nat.le_of_ble_eq_true rfl) (gdec dt_X9_whyNoTwos 13 rfl) rfl (st2 := [.int q5]) rfl ?_
        refine g_if_ne C (tgt := 30) (gdec dt_X9_whyNoTwos 14 rfl) (by decide) (fun hc6 => ?_) (fun hc6 => ?_)
        · have hf := (if_neg hc6).symm.trans hf
          refine g_aload_n C (gdec dt_X9_whyNoTwos 17 rfl) (i := 0) rfl rfl ?_
          refine g_iload_n C (gdec dt_X9_whyNoTwos 18 rfl) (i := 1) rfl rfl ?_
          refine g_iconst C (gdec dt_X9_whyNoTwos 19 rfl) ic_0 ?_
          refine g_iconst C (gdec dt_X9_whyNoTwos 20 rfl) ic_2 ?_
          refine g_iload_n C (gdec dt_X9_whyNoTwos 21 rfl) (i := 2) rfl rfl ?_
          refine g_imul C (gdec dt_X9_whyNoTwos 22 rfl) ?_
          obtain ⟨q7, hq7, hf⟩ := Option.bind_eq_some_iff.mp hf
          refine g_invV [.int x1, .int (0 : Int32), .int ((2 : Int32) * x2)] [] C (c_X9_hasFrom l D cA _ (gCi C) w x1 (0 : Int32) ((2 : Int32) * x2) q7 hq7) kT_X9_hasFrom kl_X9_30 kim_X9_hasFrom kse_X9_hasFrom rfl rfl (i := 0) rfl rfl ⟨by decide, by decide⟩ gk0 (Nat.le_of_ble_eq_true rfl) (gdec dt_X9_whyNoTwos 23 rfl) rfl (st2 := [.int q7]) rfl ?_
          refine g_if_ne C (tgt := 44) (gdec dt_X9_whyNoTwos 24 rfl) (by decide) (fun hc8 => ?_) (fun hc8 => ?_)
          · have hf := (if_neg hc8).symm.trans hf
            refine g_iconst C (gdec dt_X9_whyNoTwos 27 rfl) ic_0 ?_
            refine g_istore_n C (gdec dt_X9_whyNoTwos 28 rfl) (i := 3) rfl (by decide) (lo2 := [(3, .int (0 : Int32)), (0, .ref 0), (1, .int x1), (2, .int x2)]) rfl ?_
            refine g_sub [1, 2, 3, 0] (lo2 := [(0, .ref 0), (1, .int x1), (2, .int x2), (3, .int (0 : Int32))]) rfl ?_
            exact L_X9_whyNoTwos_46 C FU x1 x2 (0 : Int32) hf
          · have hf := (if_pos hc8).symm.trans hf
            refine g_iconst C (gdec dt_X9_whyNoTwos 25 rfl) ic_3 ?_
            cases hf
            exact g_iret C rfl (gdec dt_X9_whyNoTwos 26 rfl)
        · have hf := (if_pos hc6).symm.trans hf
          refine g_iconst C (gdec dt_X9_whyNoTwos 15 rfl) ic_2 ?_
          cases hf
          exact g_iret C rfl (gdec dt_X9_whyNoTwos 16 rfl)
      · have hf := (if_neg hc4).symm.trans hf
        refine g_iconst C (gdec dt_X9_whyNoTwos 9 rfl) ic_1 ?_
        cases hf
        exact g_iret C rfl (gdec dt_X9_whyNoTwos 10 rfl)
set_option maxHeartbeats 4000000 in
set_option maxRecDepth 100000 in
theorem L_X9_fittingStills_70 {p : Program} {l : Launch} {e : Env} {s : State} {m : MethodId} {args : Array Value} {below : List Frame} {meth : Method} {c : Code} {D : va_G} {cA ad : Nat → Nat} {w : GW} {q : Int32} (C : gC p c cX9_fittingStills meth m s args 8 (some .int) RX9 D cA ad shTr) {k18 : Int32 → Int32 → Int32 → Int32 → Int32 → Int32 → Option Int32} (hk18 : ∀ (x1 : Int32) (x2 : Int32) (x3 : Int32) (x4 : Int32) (x5 : Int32) (x6 : Int32), k18 x1 x2 x3 x4 x5 x6 = some q → gW p l e (gRm 5 207) s m args below meth c D cA ad shTr 8 0 0 (gQ below D cA ad shTr (some (.int q)) w args s) 18 [(0, .ref 0), (1, .int x1), (2, .int x2), (3, .int x3), (4, .int x4), (5, .int x5), (6, .int x6)] [] w) (x1 : Int32) (x2 : Int32) (x3 : Int32) (x4 : Int32) (x6 : Int32) (s0 : Int32) (hf : f_X9_fittingStills_70 k18 w x1 x2 x3 x4 x6 s0 = some q) : gW p l e (gRm 5 207) s m args below meth c D cA ad shTr 8 0 0 (gQ below D cA ad shTr (some (.int q)) w args s) 70 [(0, .ref 0), (1, .int x1), (2, .int x2), (3, .int x3), (4, .int x4), (6, .int x6)] [.int s0] w := by
  unfold f_X9_fittingStills_70 at hf
  refine g_istore C (gdec dt_X9_fittingStills 42 rfl) (by decide) (lo2 := [(5, .int s0), (0, .ref 0), (1, .int x1), (2, .int x2), (3, .int x3), (4, .int x4), (6, .int x6)]) rfl ?_
  refine g_iinc C (gdec dt_X9_fittingStills 43 rfl) (kk := 6) rfl (v := (x6 + (1 : Int32))) rfl (by decide) (lo2 := [(6, .int (x6 + (1 : Int32))), (5, .int s0), (0, .ref 0), (1, .int x1), (2, .int x2), (3, .int x3), (4, .int x4)]) rfl ?_
  refine g_goto C (tgt := 18) (gdec dt_X9_fittingStills 44 rfl) (by decide) ?_
  refine g_sub [2, 3, 4, 5, 6, 1, 0] (lo2 := [(0, .ref 0), (1, .int x1), (2, .int x2), (3, .int x3), (4, .int x4), (5, .int s0), (6, .int (x6 + (1 : Int32)))]) rfl ?_
  exact hk18 x1 x2 x3 x4 s0 (x6 + (1 : Int32)) hf
set_option maxHeartbeats 4000000 in
set_option maxRecDepth 100000 in
theorem L_X9_fittingStills_69 {p : Program} {l : Launch} {e : Env} {s : State} {m : MethodId} {args : Array Value} {below : List Frame} {meth : Method} {c : Code} {D : va_G} {cA ad : Nat → Nat} {w : GW} {q : Int32} (C : gC p c cX9_fittingStills meth m s args 8 (some .int) RX9 D cA ad shTr) {k18 : Int32 → Int32 → Int32 → Int32 → Int32 → Int32 → Option Int32} (hk18 : ∀ (x1 : Int32) (x2 : Int32) (x3 : Int32) (x4 : Int32) (x5 : Int32) (x6 : Int32), k18 x1 x2 x3 x4 x5 x6 = some q → gW p l e (gRm 5 207) s m args below meth c D cA ad shTr 8 0 0 (gQ below D cA ad shTr (some (.int q)) w args s) 18 [(0, .ref 0), (1, .int x1), (2, .int x2), (3, .int x3), (4, .int x4), (5, .int x5), (6, .int x6)] [] w) (x1 : Int32) (x2 : Int32) (x3 : Int32) (x4 : Int32) (x6 : Int32) (hf : f_X9_fittingStills_69 k18 w x1 x2 x3 x4 x6 = some q) : gW p l e (gRm 5 207) s m args below meth c D cA ad shTr 8 0 0 (gQ below D cA ad shTr (some (.int q)) w args s) 69 [(0, .ref 0), (1, .int x1), (2, .int x2), (3, .int x3), (4, .int x4), (6, .int x6)] [] w := by
  unfold f_X9_fittingStills_69 at hf
  refine g_iconst C (gdec dt_X9_fittingStills 41 rfl) ic_0 ?_
  refine g_sub [0, 1, 2, 3, 4, 5] (lo2 := [(0, .ref 0), (1, .int x1), (2, .int x2), (3, .int x3), (4, .int x4), (6, .int x6)]) rfl ?_
  exact L_X9_fittingStills_70 C hk18 x1 x2 x3 x4 x6 (0 : Int32) hf
set_option maxHeartbeats 4000000 in
set_option maxRecDepth 100000 in
theorem L_X9_fittingStills_90 {p : Program} {l : Launch} {e : Env} {s : State} {m : MethodId} {args : Array Value} {below : List Frame} {meth : Method} {c : Code} {D : va_G} {cA ad : Nat → Nat} {w : GW} {q : Int32} (C : gC p c cX9_fittingStills meth m s args 8 (some .int) RX9 D cA ad shTr) {k5 : Int32 → Int32 → Int32 → Int32 → Option Int32} (hk5 : ∀ (x1 : Int32) (x2 : Int32) (x3 : Int32) (x4 : Int32), k5 x1 x2 x3 x4 = some q → gW p l e (gRm 5 207) s m args below meth c D cA ad shTr 8 0 0 (gQ below D cA ad shTr (some (.int q)) w args s) 5 [(0, .ref 0), (1, .int x1), (2, .int x2), (3, .int x3), (4, .int x4)] [] w) (x1 : Int32) (x2 : Int32) (x3 : Int32) (x4 : Int32) (hf : f_X9_fittingStills_90 k5 w x1 x2 x3 x4 = some q) : gW p l e (gRm 5 207) s m args below meth c D cA ad shTr 8 0 0 (gQ below D cA ad shTr (some (.int q)) w args s) 90 [(0, .ref 0), (1, .int x1), (2, .int x2), (3, .int x3), (4, .int x4)] [] w := by
  unfold f_X9_fittingStills_90 at hf
  refine g_iinc C (gdec dt_X9_fittingStills 53 rfl) (kk := 4) rfl (v := (x4 + (1 : Int32))) rfl (by decide) (lo2 := [(4, .int (x4 + (1 : Int32))), (0, .ref 0), (1, .int x1), (2, .int x2), (3, .int x3)]) rfl ?_
  refine g_goto C (tgt := 5) (gdec dt_X9_fittingStills 54 rfl) (by decide) ?_
  refine g_sub [1, 2, 3, 4, 0] (lo2 := [(0, .ref 0), (1, .int x1), (2, .int x2), (3, .int x3), (4, .int (x4 + (1 : Int32)))]) rfl ?_
  exact hk5 x1 x2 x3 (x4 + (1 : Int32)) hf
set_option maxHeartbeats 4000000 in
set_option maxRecDepth 100000 in
theorem Lb_X9_fittingStills_18 {p : Program} {l : Launch} {e : Env} {s : State} {m : MethodId} {args : Array Value} {below : List Frame} {meth : Method} {c : Code} {D : va_G} {cA ad : Nat → Nat} {w : GW} {q : Int32} (C : gC p c cX9_fittingStills meth m s args 8 (some .int) RX9 D cA ad shTr) {k5 : Int32 → Int32 → Int32 → Int32 → Option Int32} (hk5 : ∀ (x1 : Int32) (x2 : Int32) (x3 : Int32) (x4 : Int32), k5 x1 x2 x3 x4 = some q → gW p l e (gRm 5 207) s m args below meth c D cA ad shTr 8 0 0 (gQ below D cA ad shTr (some (.int q)) w args s) 5 [(0, .ref 0), (1, .int x1), (2, .int x2), (3, .int x3), (4, .int x4)] [] w) {k18 : Int32 → Int32 → Int32 → Int32 → Int32 → Int32 → Option Int32} (hk18 : ∀ (x1 : Int32) (x2 : Int32) (x3 : Int32) (x4 : Int32) (x5 : Int32) (x6 : Int32), k18 x1 x2 x3 x4 x5 x6 = some q → gW p l e (gRm 5 207) s m args below meth c D cA ad shTr 8 0 0 (gQ below D cA ad shTr (some (.int q)) w args s) 18 [(0, .ref 0), (1, .int x1), (2, .int x2), (3, .int x3), (4, .int x4), (5, .int x5), (6, .int x6)] [] w) (x1 : Int32) (x2 : Int32) (x3 : Int32) (x4 : Int32) (x5 : Int32) (x6 : Int32) (hf : b_X9_fittingStills_18 k5 k18 w x1 x2 x3 x4 x5 x6 = some q) : gW p l e (gRm 5 207) s m args below meth c D cA ad shTr 8 0 0 (gQ below D cA ad shTr (some (.int q)) w args s) 18 [(0, .ref 0), (1, .int x1), (2, .int x2), (3, .int x3), (4, .int x4), (5, .int x5), (6, .int x6)] [] w := by
  unfold b_X9_fittingStills_18 at hf
  refine g_iload C (gdec dt_X9_fittingStills 11 rfl) rfl ?_
  refine g_iload_n C (gdec dt_X9_fittingStills 12 rfl) (i := 2) rfl rfl ?_
  refine g_icmp_ge C (tgt := 78) (gdec dt_X9_fittingStills 13 rfl) (by decide) (fun hc2 => ?_) (fun hc2 => ?_)
  · have hf := (if_pos hc2).symm.trans hf
    refine g_iload C (gdec dt_X9_fittingStills 45 rfl) rfl ?_
    refine g_if_eq C (tgt := 90) (gdec dt_X9_fittingStills 46 rfl) (by decide) (fun hc3 => ?_) (fun hc3 => ?_)
    · have hf := (if_pos hc3).symm.trans hf
      refine g_sub [0, 1, 2, 3, 4] (lo2 := [(0, .ref 0), (1, .int x1), (2, .int x2), (3, .int x3), (4, .int x4)]) rfl ?_
      exact L_X9_fittingStills_90 C hk5 x1 x2 x3 x4 hf
    · have hf := (if_neg hc3).symm.trans hf
      refine g_iload_n C (gdec dt_X9_fittingStills 47 rfl) (i := 3) rfl rfl ?_
      refine g_iconst C (gdec dt_X9_fittingStills 48 rfl) ic_1 ?_
      refine g_iload C (gdec dt_X9_fittingStills 49 rfl) rfl ?_
      refine g_ishl C (gdec dt_X9_fittingStills 50 rfl) ?_
      refine g_ior C (gdec dt_X9_fittingStills 51 rfl) ?_
      refine g_istore_n C (gdec dt_X9_fittingStills 52 rfl) (i := 3) rfl (by decide) (lo2 := [(3, .int (x3 ||| ((1 : Int32) <<< (x4 &&& 31)))), (0, .ref 0), (1, .int x1), (2, .int x2), (4, .int x4), (5, .int x5), (6, .int x6)]) rfl ?_
      refine g_sub [1, 2, 3, 0, 4] (lo2 := [(0, .ref 0), (1, .int x1), (2, .int x2), (3, .int (x3 ||| ((1 : Int32) <<< (x4 &&& 31)))), (4, .int x4)]) rfl ?_
      exact L_X9_fittingStills_90 C hk5 x1 x2 (x3 ||| ((1 : Int32) <<< (x4 &&& 31))) x4 hf
  · have hf := (if_neg hc2).symm.trans hf
    refine g_aload_n C (gdec dt_X9_fittingStills 14 rfl) (i := 0) rfl rfl ?_
    refine g_iload_n C (gdec dt_X9_fittingStills 15 rfl) (i := 1) rfl rfl ?_
    refine g_iconst C (gdec dt_X9_fittingStills 16 rfl) ic_2 ?_
    refine g_iload C (gdec dt_X9_fittingStills 17 rfl) rfl ?_
    refine g_imul C (gdec dt_X9_fittingStills 18 rfl) ?_
    obtain ⟨q4, hq4, hf⟩ := Option.bind_eq_some_iff.mp hf
    refine g_invV [.int x1, .int ((2 : Int32) * x6)] [] C (c_X9_at l D cA _ (gCi C) w x1 ((2 : Int32) * x6) q4 hq4) kT_X9_at kl_X9_44 kim_X9_at kse_X9_at rfl rfl (i := 0) rfl rfl ⟨by decide, by decide⟩ gk0 (Nat.le_of_ble_eq_true rfl) (gdec dt_X9_fittingStills 19 rfl) rfl (st2 := [.long q4]) rfl ?_
    refine g_l2i C (gdec dt_X9_fittingStills 20 rfl) ?_
    refine g_istore C (gdec dt_X9_fittingStills 21 rfl) (by decide) (lo2 := [(7, .int q4.toInt32), (0, .ref 0), (1, .int x1), (2, .int x2), (3, .int x3), (4, .int x4), (5, .int x5), (6, .int x6)]) rfl ?_
    refine g_iload C (gdec dt_X9_fittingStills 22 rfl) rfl ?_
    refine g_if_eq C (tgt := 69) (gdec dt_X9_fittingStills 23 rfl) (by decide) (fun hc5 => ?_) (fun hc5 => ?_)
    · have hf := (if_pos hc5).symm.trans hf
      refine g_sub [1, 2, 3, 4, 5, 7] (lo2 := [(0, .ref 0), (1, .int x1), (2, .int x2), (3, .int x3), (4, .int x4), (6, .int x6)]) rfl ?_
      exact L_X9_fittingStills_69 C hk18 x1 x2 x3 x4 x6 hf
    · have hf := (if_neg hc5).symm.trans hf
      refine g_iconst C (gdec dt_X9_fittingStills 24 rfl) ic_0 ?_
      refine g_iload C (gdec dt_X9_fittingStills 25 rfl) rfl ?_
      refine g_iload C (gdec dt_X9_fittingStills 26 rfl) rfl ?_
      obtain ⟨q6, hq6, hf⟩ := Option.bind_eq_some_iff.mp hf
      refine g_invSN e_nil [.int (0 : Int32), .int x4, .int q4.toInt32] [] C (c_X10_greyGrown l D cA _ (gInj_sub em_e_nil_shTr (gCi C)) (gsub w e_nil) (0 : Int32) x4 q4.toInt32 q6 hq6) em_e_nil_shTr (by decide) rfl kT_X10_greyGrown kn_X9_50 kst_X10_greyGrown rfl rfl ⟨by decide, by decide⟩ gk0 (Nat.le_of_ble_eq_true rfl) (gdec dt_X9_fittingStills 27 rfl) rfl (st2 := [.int q6]) (w2 := w) rfl (gput_sub _ _) ?_
      refine g_i2l C (gdec dt_X9_fittingStills 28 rfl) ?_
      refine g_aload_n C (gdec dt_X9_fittingStills 29 rfl) (i := 0) rfl rfl ?_
      refine g_iload_n C (gdec dt_X9_fittingStills 30 rfl) (i := 1) rfl rfl ?_
      refine g_iconst C (gdec dt_X9_fittingStills 31 rfl) ic_2 ?_
      refine g_iload C (gdec dt_X9_fittingStills 32 rfl) rfl ?_
      refine g_imul C (gdec dt_X9_fittingStills 33 rfl) ?_
      refine g_iconst C (gdec dt_X9_fittingStills 34 rfl) ic_1 ?_
      refine g_iadd C (gdec dt_X9_fittingStills 35 rfl) ?_
      obtain ⟨q7, hq7, hf⟩ := Option.bind_eq_some_iff.mp hf
      refine g_invV [.int x1, .int (((2 : Int32) * x6) + (1 : Int32))] [.long q6.toInt64] C (c_X9_at l D cA _ (gCi C) w x1 (((2 : Int32) * x6) + (1 : Int32)) q7 hq7) kT_X9_at kl_X9_44 kim_X9_at kse_X9_at rfl rfl (i := 0) rfl rfl ⟨by decide, by decide⟩ gk0 (Nat.le_of_ble_eq_true rfl) (gdec dt_X9_fittingStills 36 rfl) rfl (st2 := [.long q7, .long q6.toInt64]) rfl ?_
      refine g_lcmp C (gdec dt_X9_fittingStills 37 rfl) ?_
      refine g_if_ne C (tgt := 69) (gdec dt_X9_fittingStills 38 rfl) (by decide) (fun hc8 => ?_) (fun hc8 => ?_)
      · have hf := (if_neg hc8).symm.trans hf
        refine g_sub [1, 2, 3, 4, 5, 7] (lo2 := [(0, .ref 0), (1, .int x1), (2, .int x2), (3, .int x3), (4, .int x4), (6, .int x6)]) rfl ?_
        exact L_X9_fittingStills_69 C hk18 x1 x2 x3 x4 x6 hf
      · have hf := (if_pos hc8).symm.trans hf
        refine g_iconst C (gdec dt_X9_fittingStills 39 rfl) ic_1 ?_
        refine g_goto C (tgt := 70) (gdec dt_X9_fittingStills 40 rfl) (by decide) ?_
        refine g_sub [1, 2, 3, 4, 5, 7] (lo2 := [(0, .ref 0), (1, .int x1), (2, .int x2), (3, .int x3), (4, .int x4), (6, .int x6)]) rfl ?_
        exact L_X9_fittingStills_70 C hk18 x1 x2 x3 x4 x6 (1 : Int32) hf
theorem L_X9_fittingStills_18 {p : Program} {l : Launch} {e : Env} {s : State} {m : MethodId} {args : Array Value} {below : List Frame} {meth : Method} {c : Code} {D : va_G} {cA ad : Nat → Nat} {w : GW} {q : Int32} (C : gC p c cX9_fittingStills meth m s args 8 (some .int) RX9 D cA ad shTr) {k5 : Int32 → Int32 → Int32 → Int32 → Option Int32} (hk5 : ∀ (x1 : Int32) (x2 : Int32) (x3 : Int32) (x4 : Int32), k5 x1 x2 x3 x4 = some q → gW p l e (gRm 5 207) s m args below meth c D cA ad shTr 8 0 0 (gQ below D cA ad shTr (some (.int q)) w args s) 5 [(0, .ref 0), (1, .int x1), (2, .int x2), (3, .int x3), (4, .int x4)] [] w) : ∀ (n : Nat) (x1 : Int32) (x2 : Int32) (x3 : Int32) (x4 : Int32) (x5 : Int32) (x6 : Int32), f_X9_fittingStills_18 k5 w n x1 x2 x3 x4 x5 x6 = some q → gW p l e (gRm 5 207) s m args below meth c D cA ad shTr 8 0 0 (gQ below D cA ad shTr (some (.int q)) w args s) 18 [(0, .ref 0), (1, .int x1), (2, .int x2), (3, .int x3), (4, .int x4), (5, .int x5), (6, .int x6)] [] w := by
  intro n
  induction n with
  | zero => intro _ _ _ _ _ _ hf; cases hf
  | succ n ih => intro x1 x2 x3 x4 x5 x6 hf; exact Lb_X9_fittingStills_18 C hk5 ih x1 x2 x3 x4 x5 x6 hf
set_option maxHeartbeats 4000000 in
set_option maxRecDepth 100000 in
theorem Lb_X9_fittingStills_5 {p : Program} {l : Launch} {e : Env} {s : State} {m : MethodId} {args : Array Value} {below : List Frame} {meth : Method} {c : Code} {D : va_G} {cA ad : Nat → Nat} {w : GW} {q : Int32} (C : gC p c cX9_fittingStills meth m s args 8 (some .int) RX9 D cA ad shTr) {k5 : Int32 → Int32 → Int32 → Int32 → Option Int32} (hk5 : ∀ (x1 : Int32) (x2 : Int32) (x3 : Int32) (x4 : Int32), k5 x1 x2 x3 x4 = some q → gW p l e (gRm 5 207) s m args below meth c D cA ad shTr 8 0 0 (gQ below D cA ad shTr (some (.int q)) w args s) 5 [(0, .ref 0), (1, .int x1), (2, .int x2), (3, .int x3), (4, .int x4)] [] w) (x1 : Int32) (x2 : Int32) (x3 : Int32) (x4 : Int32) (hf : b_X9_fittingStills_5 k5 w x1 x2 x3 x4 = some q) : gW p l e (gRm 5 207) s m args below meth c D cA ad shTr 8 0 0 (gQ below D cA ad shTr (some (.int q)) w args s) 5 [(0, .ref 0), (1, .int x1), (2, .int x2), (3, .int x3), (4, .int x4)] [] w := by
  unfold b_X9_fittingStills_5 at hf
  refine g_iload C (gdec dt_X9_fittingStills 4 rfl) rfl ?_
  refine g_bipush C (gdec dt_X9_fittingStills 5 rfl) bc_9 ?_
  refine g_icmp_gt C (tgt := 96) (gdec dt_X9_fittingStills 6 rfl) (by decide) (fun hc1 => ?_) (fun hc1 => ?_)
  · have hf := (if_pos hc1).symm.trans hf
    refine g_iload_n C (gdec dt_X9_fittingStills 55 rfl) (i := 3) rfl rfl ?_
    cases hf
    exact g_iret C rfl (gdec dt_X9_fittingStills 56 rfl)
  · have hf := (if_neg hc1).symm.trans hf
    refine g_iconst C (gdec dt_X9_fittingStills 7 rfl) ic_1 ?_
    refine g_istore C (gdec dt_X9_fittingStills 8 rfl) (by decide) (lo2 := [(5, .int (1 : Int32)), (0, .ref 0), (1, .int x1), (2, .int x2), (3, .int x3), (4, .int x4)]) rfl ?_
    refine g_iconst C (gdec dt_X9_fittingStills 9 rfl) ic_0 ?_
    refine g_istore C (gdec dt_X9_fittingStills 10 rfl) (by decide) (lo2 := [(6, .int (0 : Int32)), (5, .int (1 : Int32)), (0, .ref 0), (1, .int x1), (2, .int x2), (3, .int x3), (4, .int x4)]) rfl ?_
    refine g_sub [2, 3, 4, 5, 6, 1, 0] (lo2 := [(0, .ref 0), (1, .int x1), (2, .int x2), (3, .int x3), (4, .int x4), (5, .int (1 : Int32)), (6, .int (0 : Int32))]) rfl ?_
    exact L_X9_fittingStills_18 C hk5 FU x1 x2 x3 x4 (1 : Int32) (0 : Int32) hf
theorem L_X9_fittingStills_5 {p : Program} {l : Launch} {e : Env} {s : State} {m : MethodId} {args : Array Value} {below : List Frame} {meth : Method} {c : Code} {D : va_G} {cA ad : Nat → Nat} {w : GW} {q : Int32} (C : gC p c cX9_fittingStills meth m s args 8 (some .int) RX9 D cA ad shTr) : ∀ (n : Nat) (x1 : Int32) (x2 : Int32) (x3 : Int32) (x4 : Int32), f_X9_fittingStills_5 w n x1 x2 x3 x4 = some q → gW p l e (gRm 5 207) s m args below meth c D cA ad shTr 8 0 0 (gQ below D cA ad shTr (some (.int q)) w args s) 5 [(0, .ref 0), (1, .int x1), (2, .int x2), (3, .int x3), (4, .int x4)] [] w := by
  intro n
  induction n with
  | zero => intro _ _ _ _ hf; cases hf
  | succ n ih => intro x1 x2 x3 x4 hf; exact Lb_X9_fittingStills_5 C ih x1 x2 x3 x4 hf
set_option maxHeartbeats 4000000 in
set_option maxRecDepth 100000 in
theorem c_X9_fittingStills (l : Launch) (D : va_G) (cA ad : Nat → Nat) (hin : gInj ad shTr.length) (w : GW) (x1 : Int32) (x2 : Int32) (q : Int32) (hf : F_X9_fittingStills w x1 x2 = some q) : gMet l yX9_fittingStills cX9_fittingStills 8 (some .int) 5 207 D cA ad shTr [.ref 0, .int x1, .int x2] w (some (.int q)) w := by
  refine g_entry (by decide) hin (Nat.le_of_ble_eq_true rfl) ?_
  intro p e s m args below meth c C
  unfold F_X9_fittingStills at hf
  show gW p l e (gRm 5 207) s m args below meth c D cA ad shTr 8 0 0 (gQ below D cA ad shTr (some (.int q)) w args s) 0 [(0, .ref 0), (1, .int x1), (2, .int x2)] [] w
  refine g_iconst C (gdec dt_X9_fittingStills 0 rfl) ic_0 ?_
  refine g_istore_n C (gdec dt_X9_fittingStills 1 rfl) (i := 3) rfl (by decide) (lo2 := [(3, .int (0 : Int32)), (0, .ref 0), (1, .int x1), (2, .int x2)]) rfl ?_
  refine g_iconst C (gdec dt_X9_fittingStills 2 rfl) ic_0 ?_
  refine g_istore C (gdec dt_X9_fittingStills 3 rfl) (by decide) (lo2 := [(4, .int (0 : Int32)), (3, .int (0 : Int32)), (0, .ref 0), (1, .int x1), (2, .int x2)]) rfl ?_
  refine g_sub [2, 3, 4, 1, 0] (lo2 := [(0, .ref 0), (1, .int x1), (2, .int x2), (3, .int (0 : Int32)), (4, .int (0 : Int32))]) rfl ?_
  exact L_X9_fittingStills_5 C FU x1 x2 (0 : Int32) (0 : Int32) hf
