def tb_X7_greyWith : List (Nat × Jvm.ClassFile.Instr × Nat) := [(0, .aload_n 1, 1), (1, .iload 4, 2), (3, .invokevirtual 42, 3), (6, .ifCond .eq 13, 3), (9, .iload 5, 2), (11, .iconst 1, 1), (12, .iload 4, 2), (14, .ishl, 1), (15, .iand, 1), (16, .ifCond .eq 5, 3), (19, .iconst (-1), 1), (20, .ireturn, 1), (21, .aload_n 1, 1), (22, .iload_n 3, 1), (23, .iload 4, 2), (25, .iload_n 2, 1), (26, .invokevirtual 46, 3), (29, .aload_n 0, 1), (30, .getfield 9, 3), (33, .iload 5, 2), (35, .iconst 1, 1), (36, .iload 4, 2), (38, .ishl, 1), (39, .ior, 1), (40, .iaload, 1), (41, .iadd, 1), (42, .ireturn, 1)]
set_option maxRecDepth 100000 in
theorem dt_X7_greyWith : ∀ q ∈ tb_X7_greyWith, decode cX7_greyWith q.1 = .ok q.2 := by decide +kernel
def tb_X7_firstBest : List (Nat × Jvm.ClassFile.Instr × Nat) := [(0, .iconst (-1), 1), (1, .istore 5, 2), (3, .iconst (-1), 1), (4, .istore 6, 2), (6, .iconst 0, 1), (7, .istore 7, 2), (9, .iload 7, 2), (11, .aload_n 1, 1), (12, .getfield 29, 3), (15, .if_icmp .ge 37, 3), (18, .aload_n 0, 1), (19, .aload_n 1, 1), (20, .iload_n 2, 1), (21, .iload_n 3, 1), (22, .iload 7, 2), (24, .iload 4, 2), (26, .invokevirtual 38, 3), (29, .istore 8, 2), (31, .iload 8, 2), (33, .iload 6, 2), (35, .if_icmp .le 11, 3), (38, .iload 7, 2), (40, .istore 5, 2), (42, .iload 8, 2), (44, .istore 6, 2), (46, .iinc 7 1, 3), (49, .goto (-40), 3), (52, .iload 5, 2), (54, .ireturn, 1)]
set_option maxRecDepth 100000 in
theorem dt_X7_firstBest : ∀ q ∈ tb_X7_firstBest, decode cX7_firstBest q.1 = .ok q.2 := by decide +kernel
def tb_X7_fill : List (Nat × Jvm.ClassFile.Instr × Nat) := [(0, .iconst 1, 1), (1, .aload_n 1, 1), (2, .getfield 29, 3), (5, .ishl, 1), (6, .iconst 1, 1), (7, .isub, 1), (8, .istore_n 3, 1), (9, .iload_n 3, 1), (10, .ifCond .lt 59, 3), (13, .aload_n 0, 1), (14, .getfield 9, 3), (17, .iload_n 3, 1), (18, .iconst 0, 1), (19, .iastore, 1), (20, .iload_n 3, 1), (21, .invokestatic 32, 3), (24, .istore 4, 2), (26, .iload 4, 2), (28, .aload_n 1, 1), (29, .getfield 19, 3), (32, .if_icmp .ge 31, 3), (35, .aload_n 0, 1), (36, .aload_n 1, 1), (37, .iload_n 2, 1), (38, .iload 4, 2), (40, .iload_n 3, 1), (41, .invokevirtual 25, 3), (44, .istore 5, 2), (46, .aload_n 0, 1), (47, .getfield 9, 3), (50, .iload_n 3, 1), (51, .aload_n 0, 1), (52, .aload_n 1, 1), (53, .iload_n 2, 1), (54, .iload 4, 2), (56, .iload 5, 2), (58, .iload_n 3, 1), (59, .invokevirtual 38, 3), (62, .iastore, 1), (63, .iinc 3 (-1), 3), (66, .goto (-57), 3), (69, .return_, 1)]
set_option maxRecDepth 100000 in
theorem dt_X7_fill : ∀ q ∈ tb_X7_fill, decode cX7_fill q.1 = .ok q.2 := by decide +kernel
def tb_X7_mostGrey : List (Nat × Jvm.ClassFile.Instr × Nat) := [(0, .aload_n 0, 1), (1, .aload_n 1, 1), (2, .iload_n 2, 1), (3, .invokevirtual 15, 3), (6, .aload_n 0, 1), (7, .getfield 9, 3), (10, .iconst 0, 1), (11, .iaload, 1), (12, .ireturn, 1)]
set_option maxRecDepth 100000 in
theorem dt_X7_mostGrey : ∀ q ∈ tb_X7_mostGrey, decode cX7_mostGrey q.1 = .ok q.2 := by decide +kernel
def tb_X7_bestSeat : List (Nat × Jvm.ClassFile.Instr × Nat) := [(0, .aload_n 0, 1), (1, .aload_n 1, 1), (2, .iload_n 2, 1), (3, .invokevirtual 15, 3), (6, .iconst 0, 1), (7, .istore 4, 2), (9, .iconst (-1), 1), (10, .istore 5, 2), (12, .iconst 0, 1), (13, .istore 6, 2), (15, .iload 6, 2), (17, .iload_n 3, 1), (18, .if_icmp .gt 45, 3), (21, .iload 6, 2), (23, .aload_n 1, 1), (24, .getfield 19, 3), (27, .if_icmp .ge 36, 3), (30, .aload_n 0, 1), (31, .aload_n 1, 1), (32, .iload_n 2, 1), (33, .iload 6, 2), (35, .iload 4, 2), (37, .invokevirtual 25, 3), (40, .istore 5, 2), (42, .iload 5, 2), (44, .iconst (-1), 1), (45, .if_icmp .eq 12, 3), (48, .iload 4, 2), (50, .iconst 1, 1), (51, .iload 5, 2), (53, .ishl, 1), (54, .ior, 1), (55, .istore 4, 2), (57, .iinc 6 1, 3), (60, .goto (-45), 3), (63, .iload 5, 2), (65, .ireturn, 1)]
set_option maxRecDepth 100000 in
theorem dt_X7_bestSeat : ∀ q ∈ tb_X7_bestSeat, decode cX7_bestSeat q.1 = .ok q.2 := by decide +kernel
def F_X7_greyWith (w : GW) (x2 : Int32) (x3 : Int32) (x4 : Int32) (x5 : Int32) : Option Int32 := ((F_X0_hasCorner (gsub w e_shS_shB_2) x4).bind fun q1 => (if q1 = 0 then (some (-1 : Int32)) else (if (x5 &&& ((1 : Int32) <<< (x4 &&& 31))) = 0 then ((F_X0_greySeated (gsub w e_shS_shB_2) x3 x4 x2).bind fun q4 => (if gin (x5 ||| ((1 : Int32) <<< (x4 &&& 31))) 128 then (some (q4 + (w.1 1 (x5 ||| ((1 : Int32) <<< (x4 &&& 31))).toNatClampNeg))) else none)) else (some (-1 : Int32)))))
def f_X7_firstBest_46 (k9 : Int32 → Int32 → Int32 → Int32 → Int32 → Int32 → Option Int32) (w : GW) (x2 : Int32) (x3 : Int32) (x4 : Int32) (x5 : Int32) (x6 : Int32) (x7 : Int32) : Option Int32 := (k9 x2 x3 x4 x5 x6 (x7 + (1 : Int32)))
def b_X7_firstBest_9 (k9 : Int32 → Int32 → Int32 → Int32 → Int32 → Int32 → Option Int32) (w : GW) (x2 : Int32) (x3 : Int32) (x4 : Int32) (x5 : Int32) (x6 : Int32) (x7 : Int32) : Option Int32 := (if (w.1 2 3) ≤ x7 then (some x5) else ((F_X7_greyWith w x2 x3 x7 x4).bind fun q2 => (if q2 ≤ x6 then (f_X7_firstBest_46 k9 w x2 x3 x4 x5 x6 x7) else (f_X7_firstBest_46 k9 w x2 x3 x4 x7 q2 x7))))
def f_X7_firstBest_9 (w : GW) : Nat → Int32 → Int32 → Int32 → Int32 → Int32 → Int32 → Option Int32
  | 0, _, _, _, _, _, _ => none
  | n + 1, x2, x3, x4, x5, x6, x7 => b_X7_firstBest_9 (f_X7_firstBest_9 w n) w x2 x3 x4 x5 x6 x7
def F_X7_firstBest (w : GW) (x2 : Int32) (x3 : Int32) (x4 : Int32) : Option Int32 := (f_X7_firstBest_9 w FU x2 x3 x4 (-1 : Int32) (-1 : Int32) (0 : Int32))
def f_X7_fill_63 (k9 : Int32 → Int32 → GW → Option GW) (x2 : Int32) (x3 : Int32) (w : GW) : Option GW := (k9 x2 (x3 + (-1 : Int32)) w)
def b_X7_fill_9 (k9 : Int32 → Int32 → GW → Option GW) (x2 : Int32) (x3 : Int32) (w : GW) : Option GW := (if x3 < 0 then (some w) else (if gin x3 128 then ((F_J6_bitCount_0f7a4 x3).bind fun q3 => (if (w.1 2 5) ≤ q3 then (f_X7_fill_63 k9 x2 x3 (gI w 1 x3.toNatClampNeg (0 : Int32))) else ((F_X7_firstBest (gI w 1 x3.toNatClampNeg (0 : Int32)) x2 q3 x3).bind fun q5 => ((F_X7_greyWith (gI w 1 x3.toNatClampNeg (0 : Int32)) x2 q3 q5 x3).bind fun q6 => (f_X7_fill_63 k9 x2 x3 (gI (gI w 1 x3.toNatClampNeg (0 : Int32)) 1 x3.toNatClampNeg q6)))))) else none))
def f_X7_fill_9 : Nat → Int32 → Int32 → GW → Option GW
  | 0, _, _, _ => none
  | n + 1, x2, x3, w => b_X7_fill_9 (f_X7_fill_9 n) x2 x3 w
def F_X7_fill (x2 : Int32) (w : GW) : Option GW := (f_X7_fill_9 FU x2 (((1 : Int32) <<< ((w.1 2 3) &&& 31)) - (1 : Int32)) w)
def F_X7_mostGrey (x2 : Int32) (w : GW) : Option (Int32 × GW) := ((F_X7_fill x2 w).bind fun q1 => (some ((q1.1 1 0), q1)))
def f_X7_bestSeat_57 (k15 : Int32 → Int32 → Int32 → Int32 → Int32 → GW → Option (Int32 × GW)) (x2 : Int32) (x3 : Int32) (x4 : Int32) (x5 : Int32) (x6 : Int32) (w : GW) : Option (Int32 × GW) := (k15 x2 x3 x4 x5 (x6 + (1 : Int32)) w)
def b_X7_bestSeat_15 (k15 : Int32 → Int32 → Int32 → Int32 → Int32 → GW → Option (Int32 × GW)) (x2 : Int32) (x3 : Int32) (x4 : Int32) (x5 : Int32) (x6 : Int32) (w : GW) : Option (Int32 × GW) := (if x3 < x6 then (some (x5, w)) else (if (w.1 2 5) ≤ x6 then (some (x5, w)) else ((F_X7_firstBest w x2 x6 x4).bind fun q4 => (if q4 = (-1 : Int32) then (f_X7_bestSeat_57 k15 x2 x3 x4 q4 x6 w) else (f_X7_bestSeat_57 k15 x2 x3 (x4 ||| ((1 : Int32) <<< (q4 &&& 31))) q4 x6 w)))))
def f_X7_bestSeat_15 : Nat → Int32 → Int32 → Int32 → Int32 → Int32 → GW → Option (Int32 × GW)
  | 0, _, _, _, _, _, _ => none
  | n + 1, x2, x3, x4, x5, x6, w => b_X7_bestSeat_15 (f_X7_bestSeat_15 n) x2 x3 x4 x5 x6 w
def F_X7_bestSeat (x2 : Int32) (x3 : Int32) (w : GW) : Option (Int32 × GW) := ((F_X7_fill x2 w).bind fun q1 => (f_X7_bestSeat_15 FU x2 x3 (0 : Int32) (-1 : Int32) (0 : Int32) q1))
set_option maxHeartbeats 4000000 in
set_option maxRecDepth 100000 in
theorem c_X7_greyWith (l : Launch) (D : va_G) (cA ad : Nat → Nat) (hin : gInj ad shS.length) (w : GW) (x2 : Int32) (x3 : Int32) (x4 : Int32) (x5 : Int32) (q : Int32) (hf : F_X7_greyWith w x2 x3 x4 x5 = some q) : gMet l yX7_greyWith cX7_greyWith 6 (some .int) 3 167 D cA ad shS [.ref 0, .ref 2, .int x2, .int x3, .int x4, .int x5] w (some (.int q)) w := by
  refine g_entry (by decide) hin (Nat.le_of_ble_eq_true rfl) ?_
  intro p e s m args below meth c C
  unfold F_X7_greyWith at hf
  show gW p l e (gRm 3 167) s m args below meth c D cA ad shS 6 0 0 (gQ below D cA ad shS (some (.int q)) w args s) 0 [(0, .ref 0), (1, .ref 2), (2, .int x2), (3, .int x3), (4, .int x4), (5, .int x5)] [] w
  refine g_aload_n C (gdec dt_X7_greyWith 0 rfl) (i := 1) rfl rfl ?_
  refine g_iload C (gdec dt_X7_greyWith 1 rfl) rfl ?_
  obtain ⟨q1, hq1, hf⟩ := Option.bind_eq_some_iff.mp hf
  refine g_invVs e_shS_shB_2 [.int x4] [] C (c_X0_hasCorner l D cA _ (gInj_sub em_e_shS_shB_2 (gCi C)) (gsub w e_shS_shB_2) x4 q1 hq1) em_e_shS_shB_2 (by decide) rfl kT_X0_hasCorner kl_X7_42 kim_X0_hasCorner kse_X0_hasCorner rfl rfl (i := 2) rfl rfl ⟨by decide, by decide⟩ gk0 (Nat.le_of_ble_eq_true rfl) (gdec dt_X7_greyWith 2 rfl) rfl (st2 := [.int q1]) (w2 := w) rfl (gput_sub _ _) ?_
  refine g_if_eq C (tgt := 19) (gdec dt_X7_greyWith 3 rfl) (by decide) (fun hc2 => ?_) (fun hc2 => ?_)
  · have hf := (if_pos hc2).symm.trans hf
    refine g_iconst C (gdec dt_X7_greyWith 10 rfl) ic_m1 ?_
    cases hf
    exact g_iret C rfl (gdec dt_X7_greyWith 11 rfl)
  · have hf := (if_neg hc2).symm.trans hf
    refine g_iload C (gdec dt_X7_greyWith 4 rfl) rfl ?_
    refine g_iconst C (gdec dt_X7_greyWith 5 rfl) ic_1 ?_
    refine g_iload C (gdec dt_X7_greyWith 6 rfl) rfl ?_
    refine g_ishl C (gdec dt_X7_greyWith 7 rfl) ?_
    refine g_iand C (gdec dt_X7_greyWith 8 rfl) ?_
    refine g_if_eq C (tgt := 21) (gdec dt_X7_greyWith 9 rfl) (by decide) (fun hc3 => ?_) (fun hc3 => ?_)
    · have hf := (if_pos hc3).symm.trans hf
      refine g_aload_n C (gdec dt_X7_greyWith 12 rfl) (i := 1) rfl rfl ?_
      refine g_iload_n C (gdec dt_X7_greyWith 13 rfl) (i := 3) rfl rfl ?_
      refine g_iload C (gdec dt_X7_greyWith 14 rfl) rfl ?_
      refine g_iload_n C (gdec dt_X7_greyWith 15 rfl) (i := 2) rfl rfl ?_
      obtain ⟨q4, hq4, hf⟩ := Option.bind_eq_some_iff.mp hf
      refine g_invVs e_shS_shB_2 [.int x3, .int x4, .int x2] [] C (c_X0_greySeated l D cA _ (gInj_sub em_e_shS_shB_2 (gCi C)) (gsub w e_shS_shB_2) x3 x4 x2 q4 hq4) em_e_shS_shB_2 (by decide) rfl kT_X0_greySeated kl_X7_46 kim_X0_greySeated kse_X0_greySeated rfl rfl (i := 2) rfl rfl ⟨by decide, by decide⟩ gk0 (Nat.le_of_ble_eq_true rfl) (gdec dt_X7_greyWith 16 rfl) rfl (st2 := [.int q4]) (w2 := w) rfl (gput_sub _ _) ?_
      refine g_aload_n C (gdec dt_X7_greyWith 17 rfl) (i := 0) rfl rfl ?_
      refine g_getr C (j := 1) kf_X7_9 rfl rfl (gdec dt_X7_greyWith 18 rfl) ?_
      refine g_iload C (gdec dt_X7_greyWith 19 rfl) rfl ?_
      refine g_iconst C (gdec dt_X7_greyWith 20 rfl) ic_1 ?_
      refine g_iload C (gdec dt_X7_greyWith 21 rfl) rfl ?_
      refine g_ishl C (gdec dt_X7_greyWith 22 rfl) ?_
      refine g_ior C (gdec dt_X7_greyWith 23 rfl) ?_
      obtain ⟨hg5, hf⟩ := gif hf
      refine g_iald C (i := 1) rfl hg5 rfl (gdec dt_X7_greyWith 24 rfl) ?_
      refine g_iadd C (gdec dt_X7_greyWith 25 rfl) ?_
      cases hf
      exact g_iret C rfl (gdec dt_X7_greyWith 26 rfl)
    · have hf := (if_neg hc3).symm.trans hf
      refine g_iconst C (gdec dt_X7_greyWith 10 rfl) ic_m1 ?_
      cases hf
      exact g_iret C rfl (gdec dt_X7_greyWith 11 rfl)
set_option maxHeartbeats 4000000 in
set_option maxRecDepth 100000 in
theorem L_X7_firstBest_46 {p : Program} {l : Launch} {e : Env} {s : State} {m : MethodId} {args : Array Value} {below : List Frame} {meth : Method} {c : Code} {D : va_G} {cA ad : Nat → Nat} {w : GW} {q : Int32} (C : gC p c cX7_firstBest meth m s args 9 (some .int) RX7 D cA ad shS) {k9 : Int32 → Int32 → Int32 → Int32 → Int32 → Int32 → Option Int32} (hk9 : ∀ (x2 : Int32) (x3 : Int32) (x4 : Int32) (x5 : Int32) (x6 : Int32) (x7 : Int32), k9 x2 x3 x4 x5 x6 x7 = some q → gW p l e (gRm 4 192) s m args below meth c D cA ad shS 9 0 0 (gQ below D cA ad shS (some (.int q)) w args s) 9 [(0, .ref 0), (1, .ref 2), (2, .int x2), (3, .int x3), (4, .int x4), (5, .int x5), (6, .int x6), (7, .int x7)] [] w) (x2 : Int32) (x3 : Int32) (x4 : Int32) (x5 : Int32) (x6 : Int32) (x7 : Int32) (hf : f_X7_firstBest_46 k9 w x2 x3 x4 x5 x6 x7 = some q) : gW p l e (gRm 4 192) s m args below meth c D cA ad shS 9 0 0 (gQ below D cA ad shS (some (.int q)) w args s) 46 [(0, .ref 0), (1, .ref 2), (2, .int x2), (3, .int x3), (4, .int x4), (5, .int x5), (6, .int x6), (7, .int x7)] [] w := by
  unfold f_X7_firstBest_46 at hf
  refine g_iinc C (gdec dt_X7_firstBest 25 rfl) (kk := 7) rfl (v := (x7 + (1 : Int32))) rfl (by decide) (lo2 := [(7, .int (x7 + (1 : Int32))), (0, .ref 0), (1, .ref 2), (2, .int x2), (3, .int x3), (4, .int x4), (5, .int x5), (6, .int x6)]) rfl ?_
  refine g_goto C (tgt := 9) (gdec dt_X7_firstBest 26 rfl) (by decide) ?_
  refine g_sub [1, 2, 3, 4, 5, 6, 7, 0] (lo2 := [(0, .ref 0), (1, .ref 2), (2, .int x2), (3, .int x3), (4, .int x4), (5, .int x5), (6, .int x6), (7, .int (x7 + (1 : Int32)))]) rfl ?_
  exact hk9 x2 x3 x4 x5 x6 (x7 + (1 : Int32)) hf
set_option maxHeartbeats 4000000 in
set_option maxRecDepth 100000 in
theorem Lb_X7_firstBest_9 {p : Program} {l : Launch} {e : Env} {s : State} {m : MethodId} {args : Array Value} {below : List Frame} {meth : Method} {c : Code} {D : va_G} {cA ad : Nat → Nat} {w : GW} {q : Int32} (C : gC p c cX7_firstBest meth m s args 9 (some .int) RX7 D cA ad shS) {k9 : Int32 → Int32 → Int32 → Int32 → Int32 → Int32 → Option Int32} (hk9 : ∀ (x2 : Int32) (x3 : Int32) (x4 : Int32) (x5 : Int32) (x6 : Int32) (x7 : Int32), k9 x2 x3 x4 x5 x6 x7 = some q → gW p l e (gRm 4 192) s m args below meth c D cA ad shS 9 0 0 (gQ below D cA ad shS (some (.int q)) w args s) 9 [(0, .ref 0), (1, .ref 2), (2, .int x2), (3, .int x3), (4, .int x4), (5, .int x5), (6, .int x6), (7, .int x7)] [] w) (x2 : Int32) (x3 : Int32) (x4 : Int32) (x5 : Int32) (x6 : Int32) (x7 : Int32) (hf : b_X7_firstBest_9 k9 w x2 x3 x4 x5 x6 x7 = some q) : gW p l e (gRm 4 192) s m args below meth c D cA ad shS 9 0 0 (gQ below D cA ad shS (some (.int q)) w args s) 9 [(0, .ref 0), (1, .ref 2), (2, .int x2), (3, .int x3), (4, .int x4), (5, .int x5), (6, .int x6), (7, .int x7)] [] w := by
  unfold b_X7_firstBest_9 at hf
  refine g_iload C (gdec dt_X7_firstBest 6 rfl) rfl ?_
  refine g_aload_n C (gdec dt_X7_firstBest 7 rfl) (i := 1) rfl rfl ?_
  refine g_geti C kf_X7_29 rfl rfl (gdec dt_X7_firstBest 8 rfl) ?_
  refine g_icmp_ge C (tgt := 52) (gdec dt_X7_firstBest 9 rfl) (by decide) (fun hc1 => ?_) (fun hc1 => ?_)
  · have hf := (if_pos hc1).symm.trans hf
    refine g_iload C (gdec dt_X7_firstBest 27 rfl) rfl ?_
    cases hf
    exact g_iret C rfl (gdec dt_X7_firstBest 28 rfl)
  · have hf := (if_neg hc1).symm.trans hf
    refine g_aload_n C (gdec dt_X7_firstBest 10 rfl) (i := 0) rfl rfl ?_
    refine g_aload_n C (gdec dt_X7_firstBest 11 rfl) (i := 1) rfl rfl ?_
    refine g_iload_n C (gdec dt_X7_firstBest 12 rfl) (i := 2) rfl rfl ?_
    refine g_iload_n C (gdec dt_X7_firstBest 13 rfl) (i := 3) rfl rfl ?_
    refine g_iload C (gdec dt_X7_firstBest 14 rfl) rfl ?_
    refine g_iload C (gdec dt_X7_firstBest 15 rfl) rfl ?_
    obtain ⟨q2, hq2, hf⟩ := Option.bind_eq_some_iff.mp hf
    refine g_invV [.ref 2, .int x2, .int x3, .int x7, .int x4] [] C (c_X7_greyWith l D cA _ (gCi C) w x2 x3 x7 x4 q2 hq2) kT_X7_greyWith kl_X7_38 kim_X7_greyWith kse_X7_greyWith rfl rfl (i := 0) rfl rfl ⟨by decide, by decide⟩ gk0 (Nat.le_of_ble_eq_true rfl) (gdec dt_X7_firstBest 16 rfl) rfl (st2 := [.int q2]) rfl ?_
    refine g_istore C (gdec dt_X7_firstBest 17 rfl) (by decide) (lo2 := [(8, .int q2), (0, .ref 0), (1, .ref 2), (2, .int x2), (3, .int x3), (4, .int x4), (5, .int x5), (6, .int x6), (7, .int x7)]) rfl ?_
    refine g_iload C (gdec dt_X7_firstBest 18 rfl) rfl ?_
    refine g_iload C (gdec dt_X7_firstBest 19 rfl) rfl ?_
    refine g_icmp_le C (tgt := 46) (gdec dt_X7_firstBest 20 rfl) (by decide) (fun hc3 => ?_) (fun hc3 => ?_)
    · have hf := (if_pos hc3).symm.trans hf
      refine g_sub [1, 2, 3, 4, 5, 6, 7, 8] (lo2 := [(0, .ref 0), (1, .ref 2), (2, .int x2), (3, .int x3), (4, .int x4), (5, .int x5), (6, .int x6), (7, .int x7)]) rfl ?_
      exact L_X7_firstBest_46 C hk9 x2 x3 x4 x5 x6 x7 hf
    · have hf := (if_neg hc3).symm.trans hf
      refine g_iload C (gdec dt_X7_firstBest 21 rfl) rfl ?_
      refine g_istore C (gdec dt_X7_firstBest 22 rfl) (by decide) (lo2 := [(5, .int x7), (8, .int q2), (0, .ref 0), (1, .ref 2), (2, .int x2), (3, .int x3), (4, .int x4), (6, .int x6), (7, .int x7)]) rfl ?_
      refine g_iload C (gdec dt_X7_firstBest 23 rfl) rfl ?_
      refine g_istore C (gdec dt_X7_firstBest 24 rfl) (by decide) (lo2 := [(6, .int q2), (5, .int x7), (8, .int q2), (0, .ref 0), (1, .ref 2), (2, .int x2), (3, .int x3), (4, .int x4), (7, .int x7)]) rfl ?_
      refine g_sub [3, 4, 5, 6, 7, 1, 0, 8] (lo2 := [(0, .ref 0), (1, .ref 2), (2, .int x2), (3, .int x3), (4, .int x4), (5, .int x7), (6, .int q2), (7, .int x7)]) rfl ?_
      exact L_X7_firstBest_46 C hk9 x2 x3 x4 x7 q2 x7 hf
theorem L_X7_firstBest_9 {p : Program} {l : Launch} {e : Env} {s : State} {m : MethodId} {args : Array Value} {below : List Frame} {meth : Method} {c : Code} {D : va_G} {cA ad : Nat → Nat} {w : GW} {q : Int32} (C : gC p c cX7_firstBest meth m s args 9 (some .int) RX7 D cA ad shS) : ∀ (n : Nat) (x2 : Int32) (x3 : Int32) (x4 : Int32) (x5 : Int32) (x6 : Int32) (x7 : Int32), f_X7_firstBest_9 w n x2 x3 x4 x5 x6 x7 = some q → gW p l e (gRm 4 192) s m args below meth c D cA ad shS 9 0 0 (gQ below D cA ad shS (some (.int q)) w args s) 9 [(0, .ref 0), (1, .ref 2), (2, .int x2), (3, .int x3), (4, .int x4), (5, .int x5), (6, .int x6), (7, .int x7)] [] w := by
  intro n
  induction n with
  | zero => intro _ _ _ _ _ _ hf; cases hf
  | succ n ih => intro x2 x3 x4 x5 x6 x7 hf; exact Lb_X7_firstBest_9 C ih x2 x3 x4 x5 x6 x7 hf
set_option maxHeartbeats 4000000 in
set_option maxRecDepth 100000 in
theorem c_X7_firstBest (l : Launch) (D : va_G) (cA ad : Nat → Nat) (hin : gInj ad shS.length) (w : GW) (x2 : Int32) (x3 : Int32) (x4 : Int32) (q : Int32) (hf : F_X7_firstBest w x2 x3 x4 = some q) : gMet l yX7_firstBest cX7_firstBest 9 (some .int) 4 192 D cA ad shS [.ref 0, .ref 2, .int x2, .int x3, .int x4] w (some (.int q)) w := by
  refine g_entry (by decide) hin (Nat.le_of_ble_eq_true rfl) ?_
  intro p e s m args below meth c C
  unfold F_X7_firstBest at hf
  show gW p l e (gRm 4 192) s m args below meth c D cA ad shS 9 0 0 (gQ below D cA ad shS (some (.int q)) w args s) 0 [(0, .ref 0), (1, .ref 2), (2, .int x2), (3, .int x3), (4, .int x4)] [] w
  refine g_iconst C (gdec dt_X7_firstBest 0 rfl) ic_m1 ?_
  refine g_istore C (gdec dt_X7_firstBest 1 rfl) (by decide) (lo2 := [(5, .int (-1 : Int32)), (0, .ref 0), (1, .ref 2), (2, .int x2), (3, .int x3), (4, .int x4)]) rfl ?_
  refine g_iconst C (gdec dt_X7_firstBest 2 rfl) ic_m1 ?_
  refine g_istore C (gdec dt_X7_firstBest 3 rfl) (by decide) (lo2 := [(6, .int (-1 : Int32)), (5, .int (-1 : Int32)), (0, .ref 0), (1, .ref 2), (2, .int x2), (3, .int x3), (4, .int x4)]) rfl ?_
  refine g_iconst C (gdec dt_X7_firstBest 4 rfl) ic_0 ?_
  refine g_istore C (gdec dt_X7_firstBest 5 rfl) (by decide) (lo2 := [(7, .int (0 : Int32)), (6, .int (-1 : Int32)), (5, .int (-1 : Int32)), (0, .ref 0), (1, .ref 2), (2, .int x2), (3, .int x3), (4, .int x4)]) rfl ?_
  refine g_sub [3, 4, 5, 6, 7, 2, 1, 0] (lo2 := [(0, .ref 0), (1, .ref 2), (2, .int x2), (3, .int x3), (4, .int x4), (5, .int (-1 : Int32)), (6, .int (-1 : Int32)), (7, .int (0 : Int32))]) rfl ?_
  exact L_X7_firstBest_9 C FU x2 x3 x4 (-1 : Int32) (-1 : Int32) (0 : Int32) hf
set_option maxHeartbeats 4000000 in
set_option maxRecDepth 100000 in
theorem L_X7_fill_63 {p : Program} {l : Launch} {e : Env} {s : State} {m : MethodId} {args : Array Value} {below : List Frame} {meth : Method} {c : Code} {D : va_G} {cA ad : Nat → Nat} {q : GW} (C : gC p c cX7_fill meth m s args 6 none RX7 D cA ad shS) {k9 : Int32 → Int32 → GW → Option GW} (hk9 : ∀ (x2 : Int32) (x3 : Int32) (w : GW), k9 x2 x3 w = some q → gW p l e (gRm 5 220) s m args below meth c D cA ad shS 6 0 0 (gQ below D cA ad shS none q args s) 9 [(0, .ref 0), (1, .ref 2), (2, .int x2), (3, .int x3)] [] w) (x2 : Int32) (x3 : Int32) (w : GW) (hf : f_X7_fill_63 k9 x2 x3 w = some q) : gW p l e (gRm 5 220) s m args below meth c D cA ad shS 6 0 0 (gQ below D cA ad shS none q args s) 63 [(0, .ref 0), (1, .ref 2), (2, .int x2), (3, .int x3)] [] w := by
  unfold f_X7_fill_63 at hf
  refine g_iinc C (gdec dt_X7_fill 39 rfl) (kk := 3) rfl (v := (x3 + (-1 : Int32))) rfl (by decide) (lo2 := [(3, .int (x3 + (-1 : Int32))), (0, .ref 0), (1, .ref 2), (2, .int x2)]) rfl ?_
  refine g_goto C (tgt := 9) (gdec dt_X7_fill 40 rfl) (by decide) ?_
  refine g_sub [1, 2, 3, 0] (lo2 := [(0, .ref 0), (1, .ref 2), (2, .int x2), (3, .int (x3 + (-1 : Int32)))]) rfl ?_
  exact hk9 x2 (x3 + (-1 : Int32)) w hf
set_option maxHeartbeats 4000000 in
set_option maxRecDepth 100000 in
theorem Lb_X7_fill_9 {p : Program} {l : Launch} {e : Env} {s : State} {m : MethodId} {args : Array Value} {below : List Frame} {meth : Method} {c : Code} {D : va_G} {cA ad : Nat → Nat} {q : GW} (C : gC p c cX7_fill meth m s args 6 none RX7 D cA ad shS) {k9 : Int32 → Int32 → GW → Option GW} (hk9 : ∀ (x2 : Int32) (x3 : Int32) (w : GW), k9 x2 x3 w = some q → gW p l e (gRm 5 220) s m args below meth c D cA ad shS 6 0 0 (gQ below D cA ad shS none q args s) 9 [(0, .ref 0), (1, .ref 2), (2, .int x2), (3, .int x3)] [] w) (x2 : Int32) (x3 : Int32) (w : GW) (hf : b_X7_fill_9 k9 x2 x3 w = some q) : gW p l e (gRm 5 220) s m args below meth c D cA ad shS 6 0 0 (gQ below D cA ad shS none q args s) 9 [(0, .ref 0), (1, .ref 2), (2, .int x2), (3, .int x3)] [] w := by
  unfold b_X7_fill_9 at hf
  refine g_iload_n C (gdec dt_X7_fill 7 rfl) (i := 3) rfl rfl ?_
  refine g_if_lt C (tgt := 69) (gdec dt_X7_fill 8 rfl) (by decide) (fun hc1 => ?_) (fun hc1 => ?_)
  · have hf := (if_pos hc1).symm.trans hf
    cases hf
    exact g_vret C rfl (gdec dt_X7_fill 41 rfl)
  · have hf := (if_neg hc1).symm.trans hf
    refine g_aload_n C (gdec dt_X7_fill 9 rfl) (i := 0) rfl rfl ?_
    refine g_getr C (j := 1) kf_X7_9 rfl rfl (gdec dt_X7_fill 10 rfl) ?_
    refine g_iload_n C (gdec dt_X7_fill 11 rfl) (i := 3) rfl rfl ?_
    refine g_iconst C (gdec dt_X7_fill 12 rfl) ic_0 ?_
    obtain ⟨hg2, hf⟩ := gif hf
    refine g_iast C (i := 1) rfl hg2 rfl (gdec dt_X7_fill 13 rfl) ?_
    refine g_iload_n C (gdec dt_X7_fill 14 rfl) (i := 3) rfl rfl ?_
    obtain ⟨q3, hq3, hf⟩ := Option.bind_eq_some_iff.mp hf
    refine g_invSs e_nil [.int x3] [] C (c_J6_bitCount_0f7a4 l D cA _ (gInj_sub em_e_nil_shS (gCi C)) (gsub (gI w 1 x3.toNatClampNeg (0 : Int32)) e_nil) x3 q3 hq3) em_e_nil_shS (by decide) rfl kT_J6_bitCount_0f7a4 kl_X7_32 kst_J6_bitCount_0f7a4 rfl rfl ⟨by decide, by decide⟩ gk0 (Nat.le_of_ble_eq_true rfl) (gdec dt_X7_fill 15 rfl) rfl (st2 := [.int q3]) (w2 := (gI w 1 x3.toNatClampNeg (0 : Int32))) rfl (gput_sub _ _) ?_
    refine g_istore C (gdec dt_X7_fill 16 rfl) (by decide) (lo2 := [(4, .int q3), (0, .ref 0), (1, .ref 2), (2, .int x2), (3, .int x3)]) rfl ?_
    refine g_iload C (gdec dt_X7_fill 17 rfl) rfl ?_
    refine g_aload_n C (gdec dt_X7_fill 18 rfl) (i := 1) rfl rfl ?_
    refine g_getiv C kf_X7_19 rfl rfl (gdec dt_X7_fill 19 rfl) (v := (w.1 2 5)) rfl ?_
    refine g_icmp_ge C (tgt := 63) (gdec dt_X7_fill 20 rfl) (by decide) (fun hc4 => ?_) (fun hc4 => ?_)
    · have hf := (if_pos hc4).symm.trans hf
      refine g_sub [1, 2, 3, 4] (lo2 := [(0, .ref 0), (1, .ref 2), (2, .int x2), (3, .int x3)]) rfl ?_
      exact L_X7_fill_63 C hk9 x2 x3 (gI w 1 x3.toNatClampNeg (0 : Int32)) hf
    · have hf := (if_neg hc4).symm.trans hf
      refine g_aload_n C (gdec dt_X7_fill 21 rfl) (i := 0) rfl rfl ?_
      refine g_aload_n C (gdec dt_X7_fill 22 rfl) (i := 1) rfl rfl ?_
      refine g_iload_n C (gdec dt_X7_fill 23 rfl) (i := 2) rfl rfl ?_
      refine g_iload C (gdec dt_X7_fill 24 rfl) rfl ?_
      refine g_iload_n C (gdec dt_X7_fill 25 rfl) (i := 3) rfl rfl ?_
      obtain ⟨q5, hq5, hf⟩ := Option.bind_eq_some_iff.mp hf
      refine g_invV [.ref 2, .int x2, .int q3, .int x3] [] C (c_X7_firstBest l D cA _ (gCi C) (gI w 1 x3.toNatClampNeg (0 : Int32)) x2 q3 x3 q5 hq5) kT_X7_firstBest kl_X7_25 kim_X7_firstBest kse_X7_firstBest rfl rfl (i := 0) rfl rfl ⟨by decide, by decide⟩ gk0 (Nat.le_of_ble_eq_true rfl) (gdec dt_X7_fill 26 rfl) rfl (st2 := [.int q5]) rfl ?_
      refine g_istore C (gdec dt_X7_fill 27 rfl) (by decide) (lo2 := [(5, .int q5), (4, .int q3), (0, .ref 0), (1, .ref 2), (2, .int x2), (3, .int x3)]) rfl ?_
      refine g_aload_n C (gdec dt_X7_fill 28 rfl) (i := 0) rfl rfl ?_
      refine g_getr C (j := 1) kf_X7_9 rfl rfl (gdec dt_X7_fill 29 rfl) ?_
      refine g_iload_n C (gdec dt_X7_fill 30 rfl) (i := 3) rfl rfl ?_
      refine g_aload_n C (gdec dt_X7_fill 31 rfl) (i := 0) rfl rfl ?_
      refine g_aload_n C (gdec dt_X7_fill 32 rfl) (i := 1) rfl rfl ?_
      refine g_iload_n C (gdec dt_X7_fill 33 rfl) (i := 2) rfl rfl ?_
      refine g_iload C (gdec dt_X7_fill 34 rfl) rfl ?_
      refine g_iload C (gdec dt_X7_fill 35 rfl) rfl ?_
      refine g_iload_n C (gdec dt_X7_fill 36 rfl) (i := 3) rfl rfl ?_
      obtain ⟨q6, hq6, hf⟩ := Option.bind_eq_some_iff.mp hf
      refine g_invV [.ref 2, .int x2, .int q3, .int q5, .int x3] [.int x3, .ref 1] C (c_X7_greyWith l D cA _ (gCi C) (gI w 1 x3.toNatClampNeg (0 : Int32)) x2 q3 q5 x3 q6 hq6) kT_X7_greyWith kl_X7_38 kim_X7_greyWith kse_X7_greyWith rfl rfl (i := 0) rfl rfl ⟨by decide, by decide⟩ gk0 (Nat.le_of_ble_eq_true rfl) (gdec dt_X7_fill 37 rfl) rfl (st2 := [.int q6, .int x3, .ref 1]) rfl ?_
      refine g_iast C (i := 1) rfl hg2 rfl (gdec dt_X7_fill 38 rfl) ?_
      refine g_sub [2, 3, 4, 5] (lo2 := [(0, .ref 0), (1, .ref 2), (2, .int x2), (3, .int x3)]) rfl ?_
      exact L_X7_fill_63 C hk9 x2 x3 (gI (gI w 1 x3.toNatClampNeg (0 : Int32)) 1 x3.toNatClampNeg q6) hf
theorem L_X7_fill_9 {p : Program} {l : Launch} {e : Env} {s : State} {m : MethodId} {args : Array Value} {below : List Frame} {meth : Method} {c : Code} {D : va_G} {cA ad : Nat → Nat} {q : GW} (C : gC p c cX7_fill meth m s args 6 none RX7 D cA ad shS) : ∀ (n : Nat) (x2 : Int32) (x3 : Int32) (w : GW), f_X7_fill_9 n x2 x3 w = some q → gW p l e (gRm 5 220) s m args below meth c D cA ad shS 6 0 0 (gQ below D cA ad shS none q args s) 9 [(0, .ref 0), (1, .ref 2), (2, .int x2), (3, .int x3)] [] w := by
  intro n
  induction n with
  | zero => intro _ _ _ hf; cases hf
  | succ n ih => intro x2 x3 w hf; exact Lb_X7_fill_9 C ih x2 x3 w hf
set_option maxHeartbeats 4000000 in
set_option maxRecDepth 100000 in
theorem c_X7_fill (l : Launch) (D : va_G) (cA ad : Nat → Nat) (hin : gInj ad shS.length) (w : GW) (x2 : Int32) (q : GW) (hf : F_X7_fill x2 w = some q) : gMet l yX7_fill cX7_fill 6 none 5 220 D cA ad shS [.ref 0, .ref 2, .int x2] w none q := by
  refine g_entry (by decide) hin (Nat.le_of_ble_eq_true rfl) ?_
  intro p e s m args below meth c C
  unfold F_X7_fill at hf
  show gW p l e (gRm 5 220) s m args below meth c D cA ad shS 6 0 0 (gQ below D cA ad shS none q args s) 0 [(0, .ref 0), (1, .ref 2), (2, .int x2)] [] w
  refine g_iconst C (gdec dt_X7_fill 0 rfl) ic_1 ?_
  refine g_aload_n C (gdec dt_X7_fill 1 rfl) (i := 1) rfl rfl ?_
  refine g_geti C kf_X7_29 rfl rfl (gdec dt_X7_fill 2 rfl) ?_
  refine g_ishl C (gdec dt_X7_fill 3 rfl) ?_
  refine g_iconst C (gdec dt_X7_fill 4 rfl) ic_1 ?_
  refine g_isub C (gdec dt_X7_fill 5 rfl) ?_
  refine g_istore_n C (gdec dt_X7_fill 6 rfl) (i := 3) rfl (by decide) (lo2 := [(3, .int (((1 : Int32) <<< ((w.1 2 3) &&& 31)) - (1 : Int32))), (0, .ref 0), (1, .ref 2), (2, .int x2)]) rfl ?_
  refine g_sub [1, 2, 3, 0] (lo2 := [(0, .ref 0), (1, .ref 2), (2, .int x2), (3, .int (((1 : Int32) <<< ((w.1 2 3) &&& 31)) - (1 : Int32)))]) rfl ?_
  exact L_X7_fill_9 C FU x2 (((1 : Int32) <<< ((w.1 2 3) &&& 31)) - (1 : Int32)) w hf
set_option maxHeartbeats 4000000 in
set_option maxRecDepth 100000 in
theorem c_X7_mostGrey (l : Launch) (D : va_G) (cA ad : Nat → Nat) (hin : gInj ad shS.length) (w : GW) (x2 : Int32) (q : (Int32 × GW)) (hf : F_X7_mostGrey x2 w = some q) : gMet l yX7_mostGrey cX7_mostGrey 3 (some .int) 6 245 D cA ad shS [.ref 0, .ref 2, .int x2] w (some (.int q.1)) q.2 := by
  refine g_entry (by decide) hin (Nat.le_of_ble_eq_true rfl) ?_
  intro p e s m args below meth c C
  unfold F_X7_mostGrey at hf
  show gW p l e (gRm 6 245) s m args below meth c D cA ad shS 3 0 0 (gQ below D cA ad shS (some (.int q.1)) q.2 args s) 0 [(0, .ref 0), (1, .ref 2), (2, .int x2)] [] w
  refine g_aload_n C (gdec dt_X7_mostGrey 0 rfl) (i := 0) rfl rfl ?_
  refine g_aload_n C (gdec dt_X7_mostGrey 1 rfl) (i := 1) rfl rfl ?_
  refine g_iload_n C (gdec dt_X7_mostGrey 2 rfl) (i := 2) rfl rfl ?_
  obtain ⟨q1, hq1, hf⟩ := Option.bind_eq_some_iff.mp hf
  refine g_invV [.ref 2, .int x2] [] C (c_X7_fill l D cA _ (gCi C) w x2 q1 hq1) kT_X7_fill kl_X7_15 kim_X7_fill kse_X7_fill rfl rfl (i := 0) rfl rfl ⟨by decide, by decide⟩ gk0 (Nat.le_of_ble_eq_true rfl) (gdec dt_X7_mostGrey 3 rfl) rfl (st2 := []) rfl ?_
  refine g_aload_n C (gdec dt_X7_mostGrey 4 rfl) (i := 0) rfl rfl ?_
  refine g_getr C (j := 1) kf_X7_9 rfl rfl (gdec dt_X7_mostGrey 5 rfl) ?_
  refine g_iconst C (gdec dt_X7_mostGrey 6 rfl) ic_0 ?_
  refine g_iald C (i := 1) rfl (kx := 0) (gin_k (k := 0) (by decide) (by decide) (by decide)) (by decide) (gdec dt_X7_mostGrey 7 rfl) ?_
  cases hf
  exact g_iret C rfl (gdec dt_X7_mostGrey 8 rfl)
set_option maxHeartbeats 4000000 in
set_option maxRecDepth 100000 in
theorem L_X7_bestSeat_57 {p : Program} {l : Launch} {e : Env} {s : State} {m : MethodId} {args : Array Value} {below : List Frame} {meth : Method} {c : Code} {D : va_G} {cA ad : Nat → Nat} {q : (Int32 × GW)} (C : gC p c cX7_bestSeat meth m s args 7 (some .int) RX7 D cA ad shS) {k15 : Int32 → Int32 → Int32 → Int32 → Int32 → GW → Option (Int32 × GW)} (hk15 : ∀ (x2 : Int32) (x3 : Int32) (x4 : Int32) (x5 : Int32) (x6 : Int32) (w : GW), k15 x2 x3 x4 x5 x6 w = some q → gW p l e (gRm 6 245) s m args below meth c D cA ad shS 7 0 0 (gQ below D cA ad shS (some (.int q.1)) q.2 args s) 15 [(0, .ref 0), (1, .ref 2), (2, .int x2), (3, .int x3), (4, .int x4), (5, .int x5), (6, .int x6)] [] w) (x2 : Int32) (x3 : Int32) (x4 : Int32) (x5 : Int32) (x6 : Int32) (w : GW) (hf : f_X7_bestSeat_57 k15 x2 x3 x4 x5 x6 w = some q) : gW p l e (gRm 6 245) s m args below meth c D cA ad shS 7 0 0 (gQ below D cA ad shS (some (.int q.1)) q.2 args s) 57 [(0, .ref 0), (1, .ref 2), (2, .int x2), (3, .int x3), (4, .int x4), (5, .int x5), (6, .int x6)] [] w := by
  unfold f_X7_bestSeat_57 at hf
  refine g_iinc C (gdec dt_X7_bestSeat 33 rfl) (kk := 6) rfl (v := (x6 + (1 : Int32))) rfl (by decide) (lo2 := [(6, .int (x6 + (1 : Int32))), (0, .ref 0), (1, .ref 2), (2, .int x2), (3, .int x3), (4, .int x4), (5, .int x5)]) rfl ?_
  refine g_goto C (tgt := 15) (gdec dt_X7_bestSeat 34 rfl) (by decide) ?_
  refine g_sub [1, 2, 3, 4, 5, 6, 0] (lo2 := [(0, .ref 0), (1, .ref 2), (2, .int x2), (3, .int x3), (4, .int x4), (5, .int x5), (6, .int (x6 + (1 : Int32)))]) rfl ?_
  exact hk15 x2 x3 x4 x5 (x6 + (1 : Int32)) w hf
set_option maxHeartbeats 4000000 in
set_option maxRecDepth 100000 in
theorem Lb_X7_bestSeat_15 {p : Program} {l : Launch} {e : Env} {s : State} {m : MethodId} {args : Array Value} {below : List Frame} {meth : Method} {c : Code} {D : va_G} {cA ad : Nat → Nat} {q : (Int32 × GW)} (C : gC p c cX7_bestSeat meth m s args 7 (some .int) RX7 D cA ad shS) {k15 : Int32 → Int32 → Int32 → Int32 → Int32 → GW → Option (Int32 × GW)} (hk15 : ∀ (x2 : Int32) (x3 : Int32) (x4 : Int32) (x5 : Int32) (x6 : Int32) (w : GW), k15 x2 x3 x4 x5 x6 w = some q → gW p l e (gRm 6 245) s m args below meth c D cA ad shS 7 0 0 (gQ below D cA ad shS (some (.int q.1)) q.2 args s) 15 [(0, .ref 0), (1, .ref 2), (2, .int x2), (3, .int x3), (4, .int x4), (5, .int x5), (6, .int x6)] [] w) (x2 : Int32) (x3 : Int32) (x4 : Int32) (x5 : Int32) (x6 : Int32) (w : GW) (hf : b_X7_bestSeat_15 k15 x2 x3 x4 x5 x6 w = some q) : gW p l e (gRm 6 245) s m args below meth c D cA ad shS 7 0 0 (gQ below D cA ad shS (some (.int q.1)) q.2 args s) 15 [(0, .ref 0), (1, .ref 2), (2, .int x2), (3, .int x3), (4, .int x4), (5, .int x5), (6, .int x6)] [] w := by
  unfold b_X7_bestSeat_15 at hf
  refine g_iload C (gdec dt_X7_bestSeat 10 rfl) rfl ?_
  refine g_iload_n C (gdec dt_X7_bestSeat 11 rfl) (i := 3) rfl rfl ?_
  refine g_icmp_gt C (tgt := 63) (gdec dt_X7_bestSeat 12 rfl) (by decide) (fun hc2 => ?_) (fun hc2 => ?_)
  · have hf := (if_pos hc2).symm.trans hf
    refine g_iload C (gdec dt_X7_bestSeat 35 rfl) rfl ?_
    cases hf
    exact g_iret C rfl (gdec dt_X7_bestSeat 36 rfl)
  · have hf := (if_neg hc2).symm.trans hf
    refine g_iload C (gdec dt_X7_bestSeat 13 rfl) rfl ?_
    refine g_aload_n C (gdec dt_X7_bestSeat 14 rfl) (i := 1) rfl rfl ?_
    refine g_geti C kf_X7_19 rfl rfl (gdec dt_X7_bestSeat 15 rfl) ?_
    refine g_icmp_ge C (tgt := 63) (gdec dt_X7_bestSeat 16 rfl) (by decide) (fun hc3 => ?_) (fun hc3 => ?_)
    · have hf := (if_pos hc3).symm.trans hf
      refine g_iload C (gdec dt_X7_bestSeat 35 rfl) rfl ?_
      cases hf
      exact g_iret C rfl (gdec dt_X7_bestSeat 36 rfl)
    · have hf := (if_neg hc3).symm.trans hf
      refine g_aload_n C (gdec dt_X7_bestSeat 17 rfl) (i := 0) rfl rfl ?_
      refine g_aload_n C (gdec dt_X7_bestSeat 18 rfl) (i := 1) rfl rfl ?_
      refine g_iload_n C (gdec dt_X7_bestSeat 19 rfl) (i := 2) rfl rfl ?_
      refine g_iload C (gdec dt_X7_bestSeat 20 rfl) rfl ?_
      refine g_iload C (gdec dt_X7_bestSeat 21 rfl) rfl ?_
      obtain ⟨q4, hq4, hf⟩ := Option.bind_eq_some_iff.mp hf
      refine g_invV [.ref 2, .int x2, .int x6, .int x4] [] C (c_X7_firstBest l D cA _ (gCi C) w x2 x6 x4 q4 hq4) kT_X7_firstBest kl_X7_25 kim_X7_firstBest kse_X7_firstBest rfl rfl (i := 0) rfl rfl ⟨by decide, by decide⟩ gk0 (Nat.le_of_ble_eq_true rfl) (gdec dt_X7_bestSeat 22 rfl) rfl (st2 := [.int q4]) rfl ?_
      refine g_istore C (gdec dt_X7_bestSeat 23 rfl) (by decide) (lo2 := [(5, .int q4), (0, .ref 0), (1, .ref 2), (2, .int x2), (3, .int x3), (4, .int x4), (6, .int x6)]) rfl ?_
      refine g_iload C (gdec dt_X7_bestSeat 24 rfl) rfl ?_
      refine g_iconst C (gdec dt_X7_bestSeat 25 rfl) ic_m1 ?_
      refine g_icmp_eq C (tgt := 57) (gdec dt_X7_bestSeat 26 rfl) (by decide) (fun hc5 => ?_) (fun hc5 => ?_)
      · have hf := (if_pos hc5).symm.trans hf
        refine g_sub [1, 2, 3, 4, 5, 0, 6] (lo2 := [(0, .ref 0), (1, .ref 2), (2, .int x2), (3, .int x3), (4, .int x4), (5, .int q4), (6, .int x6)]) rfl ?_
        exact L_X7_bestSeat_57 C hk15 x2 x3 x4 q4 x6 w hf
      · have hf := (if_neg hc5).symm.trans hf
        refine g_iload C (gdec dt_X7_bestSeat 27 rfl) rfl ?_
        refine g_iconst C (gdec dt_X7_bestSeat 28 rfl) ic_1 ?_
        refine g_iload C (gdec dt_X7_bestSeat 29 rfl) rfl ?_
        refine g_ishl C (gdec dt_X7_bestSeat 30 rfl) ?_
        refine g_ior C (gdec dt_X7_bestSeat 31 rfl) ?_
        refine g_istore C (gdec dt_X7_bestSeat 32 rfl) (by decide) (lo2 := [(4, .int (x4 ||| ((1 : Int32) <<< (q4 &&& 31)))), (5, .int q4), (0, .ref 0), (1, .ref 2), (2, .int x2), (3, .int x3), (6, .int x6)]) rfl ?_
        refine g_sub [2, 3, 4, 5, 0, 1, 6] (lo2 := [(0, .ref 0), (1, .ref 2), (2, .int x2), (3, .int x3), (4, .int (x4 ||| ((1 : Int32) <<< (q4 &&& 31)))), (5, .int q4), (6, .int x6)]) rfl ?_
        exact L_X7_bestSeat_57 C hk15 x2 x3 (x4 ||| ((1 : Int32) <<< (q4 &&& 31))) q4 x6 w hf
theorem L_X7_bestSeat_15 {p : Program} {l : Launch} {e : Env} {s : State} {m : MethodId} {args : Array Value} {below : List Frame} {meth : Method} {c : Code} {D : va_G} {cA ad : Nat → Nat} {q : (Int32 × GW)} (C : gC p c cX7_bestSeat meth m s args 7 (some .int) RX7 D cA ad shS) : ∀ (n : Nat) (x2 : Int32) (x3 : Int32) (x4 : Int32) (x5 : Int32) (x6 : Int32) (w : GW), f_X7_bestSeat_15 n x2 x3 x4 x5 x6 w = some q → gW p l e (gRm 6 245) s m args below meth c D cA ad shS 7 0 0 (gQ below D cA ad shS (some (.int q.1)) q.2 args s) 15 [(0, .ref 0), (1, .ref 2), (2, .int x2), (3, .int x3), (4, .int x4), (5, .int x5), (6, .int x6)] [] w := by
  intro n
  induction n with
  | zero => intro _ _ _ _ _ _ hf; cases hf
  | succ n ih => intro x2 x3 x4 x5 x6 w hf; exact Lb_X7_bestSeat_15 C ih x2 x3 x4 x5 x6 w hf
set_option maxHeartbeats 4000000 in
set_option maxRecDepth 100000 in
theorem c_X7_bestSeat (l : Launch) (D : va_G) (cA ad : Nat → Nat) (hin : gInj ad shS.length) (w : GW) (x2 : Int32) (x3 : Int32) (q : (Int32 × GW)) (hf : F_X7_bestSeat x2 x3 w = some q) : gMet l yX7_bestSeat cX7_bestSeat 7 (some .int) 6 245 D cA ad shS [.ref 0, .ref 2, .int x2, .int x3] w (some (.int q.1)) q.2 := by
  refine g_entry (by decide) hin (Nat.le_of_ble_eq_true rfl) ?_
  intro p e s m args below meth c C
  unfold F_X7_bestSeat at hf
  show gW p l e (gRm 6 245) s m args below meth c D cA ad shS 7 0 0 (gQ below D cA ad shS (some (.int q.1)) q.2 args s) 0 [(0, .ref 0), (1, .ref 2), (2, .int x2), (3, .int x3)] [] w
  refine g_aload_n C (gdec dt_X7_bestSeat 0 rfl) (i := 0) rfl rfl ?_
  refine g_aload_n C (gdec dt_X7_bestSeat 1 rfl) (i := 1) rfl rfl ?_
  refine g_iload_n C (gdec dt_X7_bestSeat 2 rfl) (i := 2) rfl rfl ?_
  obtain ⟨q1, hq1, hf⟩ := Option.bind_eq_some_iff.mp hf
  refine g_invV [.ref 2, .int x2] [] C (c_X7_fill l D cA _ (gCi C) w x2 q1 hq1) kT_X7_fill kl_X7_15 kim_X7_fill kse_X7_fill rfl rfl (i := 0) rfl rfl ⟨by decide, by decide⟩ gk0 (Nat.le_of_ble_eq_true rfl) (gdec dt_X7_bestSeat 3 rfl) rfl (st2 := []) rfl ?_
  refine g_iconst C (gdec dt_X7_bestSeat 4 rfl) ic_0 ?_
  refine g_istore C (gdec dt_X7_bestSeat 5 rfl) (by decide) (lo2 := [(4, .int (0 : Int32)), (0, .ref 0), (1, .ref 2), (2, .int x2), (3, .int x3)]) rfl ?_
  refine g_iconst C (gdec dt_X7_bestSeat 6 rfl) ic_m1 ?_
  refine g_istore C (gdec dt_X7_bestSeat 7 rfl) (by decide) (lo2 := [(5, .int (-1 : Int32)), (4, .int (0 : Int32)), (0, .ref 0), (1, .ref 2), (2, .int x2), (3, .int x3)]) rfl ?_
  refine g_iconst C (gdec dt_X7_bestSeat 8 rfl) ic_0 ?_
  refine g_istore C (gdec dt_X7_bestSeat 9 rfl) (by decide) (lo2 := [(6, .int (0 : Int32)), (5, .int (-1 : Int32)), (4, .int (0 : Int32)), (0, .ref 0), (1, .ref 2), (2, .int x2), (3, .int x3)]) rfl ?_
  refine g_sub [3, 4, 5, 6, 2, 1, 0] (lo2 := [(0, .ref 0), (1, .ref 2), (2, .int x2), (3, .int x3), (4, .int (0 : Int32)), (5, .int (-1 : Int32)), (6, .int (0 : Int32))]) rfl ?_
  exact L_X7_bestSeat_15 C FU x2 x3 (0 : Int32) (-1 : Int32) (0 : Int32) q1 hf
