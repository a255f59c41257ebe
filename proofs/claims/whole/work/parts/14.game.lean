def tb_X2_prepare : List (Nat × Jvm.ClassFile.Instr × Nat) := [(0, .aload_n 0, 1), (1, .aload_n 1, 1), (2, .getfield 21, 3), (5, .putfield 27, 3), (8, .aload_n 0, 1), (9, .iload_n 3, 1), (10, .putfield 28, 3), (13, .iconst 0, 1), (14, .istore 4, 2), (16, .iload 4, 2), (18, .aload_n 0, 1), (19, .getfield 27, 3), (22, .if_icmp .ge 104, 3), (25, .aload_n 1, 1), (26, .getfield 31, 3), (29, .iload 4, 2), (31, .iaload, 1), (32, .istore 5, 2), (34, .aload_n 0, 1), (35, .getfield 9, 3), (38, .iload 4, 2), (40, .aload_n 1, 1), (41, .getfield 34, 3), (44, .iload 4, 2), (46, .iaload, 1), (47, .iload 5, 2), (49, .invokestatic 37, 3), (52, .iload_n 2, 1), (53, .if_icmp .lt 7, 3), (56, .iconst 1, 1), (57, .goto 4, 3), (60, .iconst 0, 1), (61, .iastore, 1), (62, .aload_n 0, 1), (63, .getfield 15, 3), (66, .iload 4, 2), (68, .aload_n 1, 1), (69, .iload 4, 2), (71, .iconst 1, 1), (72, .invokevirtual 41, 3), (75, .iload 5, 2), (77, .invokestatic 37, 3), (80, .iload_n 2, 1), (81, .if_icmp .lt 7, 3), (84, .iconst 1, 1), (85, .goto 4, 3), (88, .iconst 0, 1), (89, .iastore, 1), (90, .aload_n 0, 1), (91, .getfield 18, 3), (94, .iload 4, 2), (96, .aload_n 1, 1), (97, .getfield 34, 3), (100, .iload 4, 2), (102, .iaload, 1), (103, .iconst 2, 1), (104, .idiv, 1), (105, .iload 5, 2), (107, .invokestatic 37, 3), (110, .iload_n 2, 1), (111, .if_icmp .lt 7, 3), (114, .iconst 1, 1), (115, .goto 4, 3), (118, .iconst 0, 1), (119, .iastore, 1), (120, .iinc 4 1, 3), (123, .goto (-107), 3), (126, .return_, 1)]
set_option maxRecDepth 100000 in
theorem dt_X2_prepare : ∀ q ∈ tb_X2_prepare, decode cX2_prepare q.1 = .ok q.2 := by decide +kernel
def tb_X2_isSittersTurn : List (Nat × Jvm.ClassFile.Instr × Nat) := [(0, .iload_n 0, 1), (1, .iconst 2, 1), (2, .irem, 1), (3, .ifCond .ne 7, 3), (6, .iconst 1, 1), (7, .goto 4, 3), (10, .iconst 0, 1), (11, .ireturn, 1)]
set_option maxRecDepth 100000 in
theorem dt_X2_isSittersTurn : ∀ q ∈ tb_X2_isSittersTurn, decode cX2_isSittersTurn q.1 = .ok q.2 := by decide +kernel
def tb_X2_standing : List (Nat × Jvm.ClassFile.Instr × Nat) := [(0, .iconst 0, 1), (1, .istore_n 1, 1), (2, .iconst 0, 1), (3, .istore_n 2, 1), (4, .iload_n 2, 1), (5, .aload_n 0, 1), (6, .getfield 27, 3), (9, .if_icmp .ge 18, 3), (12, .iload_n 1, 1), (13, .aload_n 0, 1), (14, .getfield 9, 3), (17, .iload_n 2, 1), (18, .iaload, 1), (19, .iadd, 1), (20, .istore_n 1, 1), (21, .iinc 2 1, 3), (24, .goto (-20), 3), (27, .iload_n 1, 1), (28, .ireturn, 1)]
set_option maxRecDepth 100000 in
theorem dt_X2_standing : ∀ q ∈ tb_X2_standing, decode cX2_standing q.1 = .ok q.2 := by decide +kernel
def tb_X2_gainBy : List (Nat × Jvm.ClassFile.Instr × Nat) := [(0, .iload_n 1, 1), (1, .ifCond .lt 11, 3), (4, .iload_n 1, 1), (5, .aload_n 0, 1), (6, .getfield 27, 3), (9, .if_icmp .lt 5, 3), (12, .iconst 0, 1), (13, .ireturn, 1), (14, .iload_n 2, 1), (15, .invokestatic 44, 3), (18, .ifCond .eq 12, 3), (21, .aload_n 0, 1), (22, .getfield 15, 3), (25, .iload_n 1, 1), (26, .iaload, 1), (27, .goto 9, 3), (30, .aload_n 0, 1), (31, .getfield 18, 3), (34, .iload_n 1, 1), (35, .iaload, 1), (36, .aload_n 0, 1), (37, .getfield 9, 3), (40, .iload_n 1, 1), (41, .iaload, 1), (42, .isub, 1), (43, .ireturn, 1)]
set_option maxRecDepth 100000 in
theorem dt_X2_gainBy : ∀ q ∈ tb_X2_gainBy, decode cX2_gainBy q.1 = .ok q.2 := by decide +kernel
def f_X2_prepare_119 (k16 : Int32 → Int32 → GW → Option GW) (x2 : Int32) (x4 : Int32) (s0 : Int32) (s1 : Int32) (w : GW) : Option GW := (if gin s1 6 then (k16 x2 (x4 + (1 : Int32)) (gI w 3 s1.toNatClampNeg s0)) else none)
def f_X2_prepare_89 (k16 : Int32 → Int32 → GW → Option GW) (x2 : Int32) (x4 : Int32) (x5 : Int32) (s0 : Int32) (s1 : Int32) (w : GW) : Option GW := (if gin s1 6 then (if gin x4 6 then ((F_X10_looksBy ((w.1 11 x4.toNatClampNeg) / (2 : Int32)) x5).bind fun q11 => (if q11 < x2 then (f_X2_prepare_119 k16 x2 x4 (0 : Int32) x4 (gI w 2 s1.toNatClampNeg s0)) else (f_X2_prepare_119 k16 x2 x4 (1 : Int32) x4 (gI w 2 s1.toNatClampNeg s0)))) else none) else none)
def f_X2_prepare_61 (k16 : Int32 → Int32 → GW → Option GW) (x2 : Int32) (x4 : Int32) (x5 : Int32) (s0 : Int32) (s1 : Int32) (w : GW) : Option GW := (if gin s1 6 then ((F_X0_greyStaying (gsub (gI w 1 s1.toNatClampNeg s0) e_shGB_shB_4) x4 (1 : Int32)).bind fun q6 => ((F_X10_looksBy q6 x5).bind fun q7 => (if q7 < x2 then (f_X2_prepare_89 k16 x2 x4 x5 (0 : Int32) x4 (gI w 1 s1.toNatClampNeg s0)) else (f_X2_prepare_89 k16 x2 x4 x5 (1 : Int32) x4 (gI w 1 s1.toNatClampNeg s0))))) else none)
def b_X2_prepare_16 (k16 : Int32 → Int32 → GW → Option GW) (x2 : Int32) (x4 : Int32) (w : GW) : Option GW := (if (w.1 0 0) ≤ x4 then (some w) else (if gin x4 6 then ((F_X10_looksBy (w.1 11 x4.toNatClampNeg) (w.1 12 x4.toNatClampNeg)).bind fun q3 => (if q3 < x2 then (f_X2_prepare_61 k16 x2 x4 (w.1 12 x4.toNatClampNeg) (0 : Int32) x4 w) else (f_X2_prepare_61 k16 x2 x4 (w.1 12 x4.toNatClampNeg) (1 : Int32) x4 w))) else none))
def f_X2_prepare_16 : Nat → Int32 → Int32 → GW → Option GW
  | 0, _, _, _ => none
  | n + 1, x2, x4, w => b_X2_prepare_16 (f_X2_prepare_16 n) x2 x4 w
def F_X2_prepare (x2 : Int32) (x3 : Int32) (w : GW) : Option GW := (f_X2_prepare_16 FU x2 (0 : Int32) (gI (gI w 0 0 (w.1 4 5)) 0 1 x3))
def F_X2_isSittersTurn (x0 : Int32) : Option Int32 := (if (x0 - x0 / (2 : Int32) * (2 : Int32)) = 0 then (some (1 : Int32)) else (some (0 : Int32)))
def b_X2_standing_4 (k4 : Int32 → Int32 → Option Int32) (w : GW) (x1 : Int32) (x2 : Int32) : Option Int32 := (if (w.1 0 0) ≤ x2 then (some x1) else (if gin x2 6 then (k4 (x1 + (w.1 1 x2.toNatClampNeg)) (x2 + (1 : Int32))) else none))
def f_X2_standing_4 (w : GW) : Nat → Int32 → Int32 → Option Int32
  | 0, _, _ => none
  | n + 1, x1, x2 => b_X2_standing_4 (f_X2_standing_4 w n) w x1 x2
def F_X2_standing (w : GW) : Option Int32 := (f_X2_standing_4 w FU (0 : Int32) (0 : Int32))
def f_X2_gainBy_36 (w : GW) (x1 : Int32) (s0 : Int32) : Option Int32 := (if gin x1 6 then (some (s0 - (w.1 1 x1.toNatClampNeg))) else none)
def F_X2_gainBy (w : GW) (x1 : Int32) (x2 : Int32) : Option Int32 := (if x1 < 0 then (some (0 : Int32)) else (if x1 < (w.1 0 0) then ((F_X2_isSittersTurn x2).bind fun q3 => (if q3 = 0 then (if gin x1 6 then (f_X2_gainBy_36 w x1 (w.1 3 x1.toNatClampNeg)) else none) else (if gin x1 6 then (f_X2_gainBy_36 w x1 (w.1 2 x1.toNatClampNeg)) else none))) else (some (0 : Int32))))
set_option maxHeartbeats 4000000 in
set_option maxRecDepth 100000 in
theorem L_X2_prepare_119 {p : Program} {l : Launch} {e : Env} {s : State} {m : MethodId} {args : Array Value} {below : List Frame} {meth : Method} {c : Code} {D : va_G} {cA ad : Nat → Nat} {q : GW} (C : gC p c cX2_prepare meth m s args 6 none RX2 D cA ad shGB) {k16 : Int32 → Int32 → GW → Option GW} (hk16 : ∀ (x2 : Int32) (x4 : Int32) (w : GW), k16 x2 x4 w = some q → gW p l e (gRm 3 165) s m args below meth c D cA ad shGB 6 0 0 (gQ below D cA ad shGB none q args s) 16 [(0, .ref 0), (1, .ref 4), (2, .int x2), (4, .int x4)] [] w) (x2 : Int32) (x4 : Int32) (s0 : Int32) (s1 : Int32) (w : GW) (hf : f_X2_prepare_119 k16 x2 x4 s0 s1 w = some q) : gW p l e (gRm 3 165) s m args below meth c D cA ad shGB 6 0 0 (gQ below D cA ad shGB none q args s) 119 [(0, .ref 0), (1, .ref 4), (2, .int x2), (4, .int x4)] [.int s0, .int s1, .ref 3] w := by
  unfold f_X2_prepare_119 at hf
  obtain ⟨hg13, hf⟩ := gif hf
  refine g_iast C (i := 3) rfl hg13 rfl (gdec dt_X2_prepare 64 rfl) ?_
  refine g_iinc C (gdec dt_X2_prepare 65 rfl) (kk := 3) rfl (v := (x4 + (1 : Int32))) rfl (by decide) (lo2 := [(4, .int (x4 + (1 : Int32))), (0, .ref 0), (1, .ref 4), (2, .int x2)]) rfl ?_
  refine g_goto C (tgt := 16) (gdec dt_X2_prepare 66 rfl) (by decide) ?_
  refine g_sub [1, 2, 3, 0] (lo2 := [(0, .ref 0), (1, .ref 4), (2, .int x2), (4, .int (x4 + (1 : Int32)))]) rfl ?_
  exact hk16 x2 (x4 + (1 : Int32)) (gI w 3 s1.toNatClampNeg s0) hf
set_option maxHeartbeats 4000000 in
set_option maxRecDepth 100000 in
theorem L_X2_prepare_89 {p : Program} {l : Launch} {e : Env} {s : State} {m : MethodId} {args : Array Value} {below : List Frame} {meth : Method} {c : Code} {D : va_G} {cA ad : Nat → Nat} {q : GW} (C : gC p c cX2_prepare meth m s args 6 none RX2 D cA ad shGB) {k16 : Int32 → Int32 → GW → Option GW} (hk16 : ∀ (x2 : Int32) (x4 : Int32) (w : GW), k16 x2 x4 w = some q → gW p l e (gRm 3 165) s m args below meth c D cA ad shGB 6 0 0 (gQ below D cA ad shGB none q args s) 16 [(0, .ref 0), (1, .ref 4), (2, .int x2), (4, .int x4)] [] w) (x2 : Int32) (x4 : Int32) (x5 : Int32) (s0 : Int32) (s1 : Int32) (w : GW) (hf : f_X2_prepare_89 k16 x2 x4 x5 s0 s1 w = some q) : gW p l e (gRm 3 165) s m args below meth c D cA ad shGB 6 0 0 (gQ below D cA ad shGB none q args s) 89 [(0, .ref 0), (1, .ref 4), (2, .int x2), (4, .int x4), (5, .int x5)] [.int s0, .int s1, .ref 2] w := by
  unfold f_X2_prepare_89 at hf
  obtain ⟨hg9, hf⟩ := gif hf
  refine g_iast C (i := 2) rfl hg9 rfl (gdec dt_X2_prepare 47 rfl) ?_
  refine g_aload_n C (gdec dt_X2_prepare 48 rfl) (i := 0) rfl rfl ?_
  refine g_getr C (j := 3) kf_X2_18 rfl rfl (gdec dt_X2_prepare 49 rfl) ?_
  refine g_iload C (gdec dt_X2_prepare 50 rfl) rfl ?_
  refine g_aload_n C (gdec dt_X2_prepare 51 rfl) (i := 1) rfl rfl ?_
  refine g_getr C (j := 11) kf_X2_34 rfl rfl (gdec dt_X2_prepare 52 rfl) ?_
  refine g_iload C (gdec dt_X2_prepare 53 rfl) rfl ?_
  obtain ⟨hg10, hf⟩ := gif hf
  refine g_iald C (i := 11) rfl hg10 rfl (gdec dt_X2_prepare 54 rfl) ?_
  refine g_iconst C (gdec dt_X2_prepare 55 rfl) ic_2 ?_
  refine g_idiv C (gdec dt_X2_prepare 56 rfl) (by decide) ?_
  refine g_iload C (gdec dt_X2_prepare 57 rfl) rfl ?_
  obtain ⟨q11, hq11, hf⟩ := Option.bind_eq_some_iff.mp hf
  refine g_invSN e_nil [.int ((w.1 11 x4.toNatClampNeg) / (2 : Int32)), .int x5] [.int x4, .ref 3] C (c_X10_looksBy l D cA _ (gInj_sub em_e_nil_shGB (gCi C)) (gsub (gI w 2 s1.toNatClampNeg s0) e_nil) ((w.1 11 x4.toNatClampNeg) / (2 : Int32)) x5 q11 hq11) em_e_nil_shGB (by decide) rfl kT_X10_looksBy kn_X2_37 kst_X10_looksBy rfl rfl ⟨by decide, by decide⟩ gk0 (Nat.le_of_ble_eq_true rfl) (gdec dt_X2_prepare 58 rfl) rfl (st2 := [.int q11, .int x4, .ref 3]) (w2 := (gI w 2 s1.toNatClampNeg s0)) rfl (gput_sub _ _) ?_
  refine g_iload_n C (gdec dt_X2_prepare 59 rfl) (i := 2) rfl rfl ?_
  refine g_icmp_lt C (tgt := 118) (gdec dt_X2_prepare 60 rfl) (by decide) (fun hc12 => ?_) (fun hc12 => ?_)
  · have hf := (if_pos hc12).symm.trans hf
    refine g_iconst C (gdec dt_X2_prepare 63 rfl) ic_0 ?_
    refine g_sub [0, 1, 2, 3] (lo2 := [(0, .ref 0), (1, .ref 4), (2, .int x2), (4, .int x4)]) rfl ?_
    exact L_X2_prepare_119 C hk16 x2 x4 (0 : Int32) x4 (gI w 2 s1.toNatClampNeg s0) hf
  · have hf := (if_neg hc12).symm.trans hf
    refine g_iconst C (gdec dt_X2_prepare 61 rfl) ic_1 ?_
    refine g_goto C (tgt := 119) (gdec dt_X2_prepare 62 rfl) (by decide) ?_
    refine g_sub [0, 1, 2, 3] (lo2 := [(0, .ref 0), (1, .ref 4), (2, .int x2), (4, .int x4)]) rfl ?_
    exact L_X2_prepare_119 C hk16 x2 x4 (1 : Int32) x4 (gI w 2 s1.toNatClampNeg s0) hf
set_option maxHeartbeats 4000000 in
set_option maxRecDepth 100000 in
theorem L_X2_prepare_61 {p : Program} {l : Launch} {e : Env} {s : State} {m : MethodId} {args : Array Value} {below : List Frame} {meth : Method} {c : Code} {D : va_G} {cA ad : Nat → Nat} {q : GW} (C : gC p c cX2_prepare meth m s args 6 none RX2 D cA ad shGB) {k16 : Int32 → Int32 → GW → Option GW} (hk16 : ∀ (x2 : Int32) (x4 : Int32) (w : GW), k16 x2 x4 w = some q → gW p l e (gRm 3 165) s m args below meth c D cA ad shGB 6 0 0 (gQ below D cA ad shGB none q args s) 16 [(0, .ref 0), (1, .ref 4), (2, .int x2), (4, .int x4)] [] w) (x2 : Int32) (x4 : Int32) (x5 : Int32) (s0 : Int32) (s1 : Int32) (w : GW) (hf : f_X2_prepare_61 k16 x2 x4 x5 s0 s1 w = some q) : gW p l e (gRm 3 165) s m args below meth c D cA ad shGB 6 0 0 (gQ below D cA ad shGB none q args s) 61 [(0, .ref 0), (1, .ref 4), (2, .int x2), (4, .int x4), (5, .int x5)] [.int s0, .int s1, .ref 1] w := by
  unfold f_X2_prepare_61 at hf
  obtain ⟨hg5, hf⟩ := gif hf
  refine g_iast C (i := 1) rfl hg5 rfl (gdec dt_X2_prepare 32 rfl) ?_
  refine g_aload_n C (gdec dt_X2_prepare 33 rfl) (i := 0) rfl rfl ?_
  refine g_getr C (j := 2) kf_X2_15 rfl rfl (gdec dt_X2_prepare 34 rfl) ?_
  refine g_iload C (gdec dt_X2_prepare 35 rfl) rfl ?_
  refine g_aload_n C (gdec dt_X2_prepare 36 rfl) (i := 1) rfl rfl ?_
  refine g_iload C (gdec dt_X2_prepare 37 rfl) rfl ?_
  refine g_iconst C (gdec dt_X2_prepare 38 rfl) ic_1 ?_
  obtain ⟨q6, hq6, hf⟩ := Option.bind_eq_some_iff.mp hf
  refine g_invVs e_shGB_shB_4 [.int x4, .int (1 : Int32)] [.int x4, .ref 2] C (c_X0_greyStaying l D cA _ (gInj_sub em_e_shGB_shB_4 (gCi C)) (gsub (gI w 1 s1.toNatClampNeg s0) e_shGB_shB_4) x4 (1 : Int32) q6 hq6) em_e_shGB_shB_4 (by decide) rfl kT_X0_greyStaying kl_X2_41 kim_X0_greyStaying kse_X0_greyStaying rfl rfl (i := 4) rfl rfl ⟨by decide, by decide⟩ gk0 (Nat.le_of_ble_eq_true rfl) (gdec dt_X2_prepare 39 rfl) rfl (st2 := [.int q6, .int x4, .ref 2]) (w2 := (gI w 1 s1.toNatClampNeg s0)) rfl (gput_sub _ _) ?_
  refine g_iload C (gdec dt_X2_prepare 40 rfl) rfl ?_
  obtain ⟨q7, hq7, hf⟩ := Option.bind_eq_some_iff.mp hf
  refine g_invSN e_nil [.int q6, .int x5] [.int x4, .ref 2] C (c_X10_looksBy l D cA _ (gInj_sub em_e_nil_shGB (gCi C)) (gsub (gI w 1 s1.toNatClampNeg s0) e_nil) q6 x5 q7 hq7) em_e_nil_shGB (by decide) rfl kT_X10_looksBy kn_X2_37 kst_X10_looksBy rfl rfl ⟨by decide, by decide⟩ gk0 (Nat.le_of_ble_eq_true rfl) (gdec dt_X2_prepare 41 rfl) rfl (st2 := [.int q7, .int x4, .ref 2]) (w2 := (gI w 1 s1.toNatClampNeg s0)) rfl (gput_sub _ _) ?_
  refine g_iload_n C (gdec dt_X2_prepare 42 rfl) (i := 2) rfl rfl ?_
  refine g_icmp_lt C (tgt := 88) (gdec dt_X2_prepare 43 rfl) (by decide) (fun hc8 => ?_) (fun hc8 => ?_)
  · have hf := (if_pos hc8).symm.trans hf
    refine g_iconst C (gdec dt_X2_prepare 46 rfl) ic_0 ?_
    refine g_sub [0, 1, 2, 3, 4] (lo2 := [(0, .ref 0), (1, .ref 4), (2, .int x2), (4, .int x4), (5, .int x5)]) rfl ?_
    exact L_X2_prepare_89 C hk16 x2 x4 x5 (0 : Int32) x4 (gI w 1 s1.toNatClampNeg s0) hf
  · have hf := (if_neg hc8).symm.trans hf
    refine g_iconst C (gdec dt_X2_prepare 44 rfl) ic_1 ?_
    refine g_goto C (tgt := 89) (gdec dt_X2_prepare 45 rfl) (by decide) ?_
    refine g_sub [0, 1, 2, 3, 4] (lo2 := [(0, .ref 0), (1, .ref 4), (2, .int x2), (4, .int x4), (5, .int x5)]) rfl ?_
    exact L_X2_prepare_89 C hk16 x2 x4 x5 (1 : Int32) x4 (gI w 1 s1.toNatClampNeg s0) hf
set_option maxHeartbeats 4000000 in
set_option maxRecDepth 100000 in
theorem Lb_X2_prepare_16 {p : Program} {l : Launch} {e : Env} {s : State} {m : MethodId} {args : Array Value} {below : List Frame} {meth : Method} {c : Code} {D : va_G} {cA ad : Nat → Nat} {q : GW} (C : gC p c cX2_prepare meth m s args 6 none RX2 D cA ad shGB) {k16 : Int32 → Int32 → GW → Option GW} (hk16 : ∀ (x2 : Int32) (x4 : Int32) (w : GW), k16 x2 x4 w = some q → gW p l e (gRm 3 165) s m args below meth c D cA ad shGB 6 0 0 (gQ below D cA ad shGB none q args s) 16 [(0, .ref 0), (1, .ref 4), (2, .int x2), (4, .int x4)] [] w) (x2 : Int32) (x4 : Int32) (w : GW) (hf : b_X2_prepare_16 k16 x2 x4 w = some q) : gW p l e (gRm 3 165) s m args below meth c D cA ad shGB 6 0 0 (gQ below D cA ad shGB none q args s) 16 [(0, .ref 0), (1, .ref 4), (2, .int x2), (4, .int x4)] [] w := by
  unfold b_X2_prepare_16 at hf
  refine g_iload C (gdec dt_X2_prepare 9 rfl) rfl ?_
  refine g_aload_n C (gdec dt_X2_prepare 10 rfl) (i := 0) rfl rfl ?_
  refine g_geti C kf_X2_27 rfl rfl (gdec dt_X2_prepare 11 rfl) ?_
  refine g_icmp_ge C (tgt := 126) (gdec dt_X2_prepare 12 rfl) (by decide) (fun hc1 => ?_) (fun hc1 => ?_)
  · have hf := (if_pos hc1).symm.trans hf
    cases hf
    exact g_vret C rfl (gdec dt_X2_prepare 67 rfl)
  · have hf := (if_neg hc1).symm.trans hf
    refine g_aload_n C (gdec dt_X2_prepare 13 rfl) (i := 1) rfl rfl ?_
    refine g_getr C (j := 12) kf_X2_31 rfl rfl (gdec dt_X2_prepare 14 rfl) ?_
    refine g_iload C (gdec dt_X2_prepare 15 rfl) rfl ?_
    obtain ⟨hg2, hf⟩ := gif hf
    refine g_iald C (i := 12) rfl hg2 rfl (gdec dt_X2_prepare 16 rfl) ?_
    refine g_istore C (gdec dt_X2_prepare 17 rfl) (by decide) (lo2 := [(5, .int (w.1 12 x4.toNatClampNeg)), (0, .ref 0), (1, .ref 4), (2, .int x2), (4, .int x4)]) rfl ?_
    refine g_aload_n C (gdec dt_X2_prepare 18 rfl) (i := 0) rfl rfl ?_
    refine g_getr C (j := 1) kf_X2_9 rfl rfl (gdec dt_X2_prepare 19 rfl) ?_
    refine g_iload C (gdec dt_X2_prepare 20 rfl) rfl ?_
    refine g_aload_n C (gdec dt_X2_prepare 21 rfl) (i := 1) rfl rfl ?_
    refine g_getr C (j := 11) kf_X2_34 rfl rfl (gdec dt_X2_prepare 22 rfl) ?_
    refine g_iload C (gdec dt_X2_prepare 23 rfl) rfl ?_
    refine g_iald C (i := 11) rfl hg2 rfl (gdec dt_X2_prepare 24 rfl) ?_
    refine g_iload C (gdec dt_X2_prepare 25 rfl) rfl ?_
    obtain ⟨q3, hq3, hf⟩ := Option.bind_eq_some_iff.mp hf
    refine g_invSN e_nil [.int (w.1 11 x4.toNatClampNeg), .int (w.1 12 x4.toNatClampNeg)] [.int x4, .ref 1] C (c_X10_looksBy l D cA _ (gInj_sub em_e_nil_shGB (gCi C)) (gsub w e_nil) (w.1 11 x4.toNatClampNeg) (w.1 12 x4.toNatClampNeg) q3 hq3) em_e_nil_shGB (by decide) rfl kT_X10_looksBy kn_X2_37 kst_X10_looksBy rfl rfl ⟨by decide, by decide⟩ gk0 (Nat.le_of_ble_eq_true rfl) (gdec dt_X2_prepare 26 rfl) rfl (st2 := [.int q3, .int x4, .ref 1]) (w2 := w) rfl (gput_sub _ _) ?_
    refine g_iload_n C (gdec dt_X2_prepare 27 rfl) (i := 2) rfl rfl ?_
    refine g_icmp_lt C (tgt := 60) (gdec dt_X2_prepare 28 rfl) (by decide) (fun hc4 => ?_) (fun hc4 => ?_)
    · have hf := (if_pos hc4).symm.trans hf
      refine g_iconst C (gdec dt_X2_prepare 31 rfl) ic_0 ?_
      refine g_sub [1, 2, 3, 4, 0] (lo2 := [(0, .ref 0), (1, .ref 4), (2, .int x2), (4, .int x4), (5, .int (w.1 12 x4.toNatClampNeg))]) rfl ?_
      exact L_X2_prepare_61 C hk16 x2 x4 (w.1 12 x4.toNatClampNeg) (0 : Int32) x4 w hf
    · have hf := (if_neg hc4).symm.trans hf
      refine g_iconst C (gdec dt_X2_prepare 29 rfl) ic_1 ?_
      refine g_goto C (tgt := 61) (gdec dt_X2_prepare 30 rfl) (by decide) ?_
      refine g_sub [1, 2, 3, 4, 0] (lo2 := [(0, .ref 0), (1, .ref 4), (2, .int x2), (4, .int x4), (5, .int (w.1 12 x4.toNatClampNeg))]) rfl ?_
      exact L_X2_prepare_61 C hk16 x2 x4 (w.1 12 x4.toNatClampNeg) (1 : Int32) x4 w hf
theorem L_X2_prepare_16 {p : Program} {l : Launch} {e : Env} {s : State} {m : MethodId} {args : Array Value} {below : List Frame} {meth : Method} {c : Code} {D : va_G} {cA ad : Nat → Nat} {q : GW} (C : gC p c cX2_prepare meth m s args 6 none RX2 D cA ad shGB) : ∀ (n : Nat) (x2 : Int32) (x4 : Int32) (w : GW), f_X2_prepare_16 n x2 x4 w = some q → gW p l e (gRm 3 165) s m args below meth c D cA ad shGB 6 0 0 (gQ below D cA ad shGB none q args s) 16 [(0, .ref 0), (1, .ref 4), (2, .int x2), (4, .int x4)] [] w := by
  intro n
  induction n with
  | zero => intro _ _ _ hf; cases hf
  | succ n ih => intro x2 x4 w hf; exact Lb_X2_prepare_16 C ih x2 x4 w hf
set_option maxHeartbeats 4000000 in
set_option maxRecDepth 100000 in
theorem c_X2_prepare (l : Launch) (D : va_G) (cA ad : Nat → Nat) (hin : gInj ad shGB.length) (w : GW) (x2 : Int32) (x3 : Int32) (q : GW) (hf : F_X2_prepare x2 x3 w = some q) : gMet l yX2_prepare cX2_prepare 6 none 3 165 D cA ad shGB [.ref 0, .ref 4, .int x2, .int x3] w none q := by
  refine g_entry (by decide) hin (Nat.le_of_ble_eq_true rfl) ?_
  intro p e s m args below meth c C
  unfold F_X2_prepare at hf
  show gW p l e (gRm 3 165) s m args below meth c D cA ad shGB 6 0 0 (gQ below D cA ad shGB none q args s) 0 [(0, .ref 0), (1, .ref 4), (2, .int x2), (3, .int x3)] [] w
  refine g_aload_n C (gdec dt_X2_prepare 0 rfl) (i := 0) rfl rfl ?_
  refine g_aload_n C (gdec dt_X2_prepare 1 rfl) (i := 1) rfl rfl ?_
  refine g_geti C kf_X2_21 rfl rfl (gdec dt_X2_prepare 2 rfl) ?_
  refine g_puti C kf_X2_27 rfl rfl (gdec dt_X2_prepare 3 rfl) ?_
  refine g_aload_n C (gdec dt_X2_prepare 4 rfl) (i := 0) rfl rfl ?_
  refine g_iload_n C (gdec dt_X2_prepare 5 rfl) (i := 3) rfl rfl ?_
  refine g_puti C kf_X2_28 rfl rfl (gdec dt_X2_prepare 6 rfl) ?_
  refine g_iconst C (gdec dt_X2_prepare 7 rfl) ic_0 ?_
  refine g_istore C (gdec dt_X2_prepare 8 rfl) (by decide) (lo2 := [(4, .int (0 : Int32)), (0, .ref 0), (1, .ref 4), (2, .int x2), (3, .int x3)]) rfl ?_
  refine g_sub [1, 2, 3, 0] (lo2 := [(0, .ref 0), (1, .ref 4), (2, .int x2), (4, .int (0 : Int32))]) rfl ?_
  exact L_X2_prepare_16 C FU x2 (0 : Int32) (gI (gI w 0 0 (w.1 4 5)) 0 1 x3) hf
set_option maxHeartbeats 4000000 in
set_option maxRecDepth 100000 in
theorem c_X2_isSittersTurn (l : Launch) (D : va_G) (cA ad : Nat → Nat) (hin : gInj ad shE.length) (w : GW) (x0 : Int32) (q : Int32) (hf : F_X2_isSittersTurn x0 = some q) : gMet l yX2_isSittersTurn cX2_isSittersTurn 1 (some .boolean) 1 120 D cA ad shE [.int x0] w (some (.int q)) w := by
  refine g_entry (by decide) hin (Nat.le_of_ble_eq_true rfl) ?_
  intro p e s m args below meth c C
  unfold F_X2_isSittersTurn at hf
  show gW p l e (gRm 1 120) s m args below meth c D cA ad shE 1 0 0 (gQ below D cA ad shE (some (.int q)) w args s) 0 [(0, .int x0)] [] w
  refine g_iload_n C (gdec dt_X2_isSittersTurn 0 rfl) (i := 0) rfl rfl ?_
  refine g_iconst C (gdec dt_X2_isSittersTurn 1 rfl) ic_2 ?_
  refine g_irem C (gdec dt_X2_isSittersTurn 2 rfl) (by decide) ?_
  refine g_if_ne C (tgt := 10) (gdec dt_X2_isSittersTurn 3 rfl) (by decide) (fun hc1 => ?_) (fun hc1 => ?_)
  · have hf := (if_neg hc1).symm.trans hf
    refine g_iconst C (gdec dt_X2_isSittersTurn 6 rfl) ic_0 ?_
    cases hf
    exact g_zret C (Or.inl rfl) rfl (gdec dt_X2_isSittersTurn 7 rfl)
  · have hf := (if_pos hc1).symm.trans hf
    refine g_iconst C (gdec dt_X2_isSittersTurn 4 rfl) ic_1 ?_
    refine g_goto C (tgt := 11) (gdec dt_X2_isSittersTurn 5 rfl) (by decide) ?_
    cases hf
    exact g_zret C (Or.inr rfl) rfl (gdec dt_X2_isSittersTurn 7 rfl)
set_option maxHeartbeats 4000000 in
set_option maxRecDepth 100000 in
theorem Lb_X2_standing_4 {p : Program} {l : Launch} {e : Env} {s : State} {m : MethodId} {args : Array Value} {below : List Frame} {meth : Method} {c : Code} {D : va_G} {cA ad : Nat → Nat} {w : GW} {q : Int32} (C : gC p c cX2_standing meth m s args 3 (some .int) RX2 D cA ad shG) {k4 : Int32 → Int32 → Option Int32} (hk4 : ∀ (x1 : Int32) (x2 : Int32), k4 x1 x2 = some q → gW p l e (gRm 1 120) s m args below meth c D cA ad shG 3 0 0 (gQ below D cA ad shG (some (.int q)) w args s) 4 [(0, .ref 0), (1, .int x1), (2, .int x2)] [] w) (x1 : Int32) (x2 : Int32) (hf : b_X2_standing_4 k4 w x1 x2 = some q) : gW p l e (gRm 1 120) s m args below meth c D cA ad shG 3 0 0 (gQ below D cA ad shG (some (.int q)) w args s) 4 [(0, .ref 0), (1, .int x1), (2, .int x2)] [] w := by
  unfold b_X2_standing_4 at hf
  refine g_iload_n C (gdec dt_X2_standing 4 rfl) (i := 2) rfl rfl ?_
  refine g_aload_n C (gdec dt_X2_standing 5 rfl) (i := 0) rfl rfl ?_
  refine g_geti C kf_X2_27 rfl rfl (gdec dt_X2_standing 6 rfl) ?_
  refine g_icmp_ge C (tgt := 27) (gdec dt_X2_standing 7 rfl) (by decide) (fun hc1 => ?_) (fun hc1 => ?_)
  · have hf := (if_pos hc1).symm.trans hf
    refine g_iload_n C (gdec dt_X2_standing 17 rfl) (i := 1) rfl rfl ?_
    cases hf
    exact g_iret C rfl (gdec dt_X2_standing 18 rfl)
  · have hf := (if_neg hc1).symm.trans hf
    refine g_iload_n C (gdec dt_X2_standing 8 rfl) (i := 1) rfl rfl ?_
    refine g_aload_n C (gdec dt_X2_standing 9 rfl) (i := 0) rfl rfl ?_
    refine g_getr C (j := 1) kf_X2_9 rfl rfl (gdec dt_X2_standing 10 rfl) ?_
    refine g_iload_n C (gdec dt_X2_standing 11 rfl) (i := 2) rfl rfl ?_
    obtain ⟨hg2, hf⟩ := gif hf
    refine g_iald C (i := 1) rfl hg2 rfl (gdec dt_X2_standing 12 rfl) ?_
    refine g_iadd C (gdec dt_X2_standing 13 rfl) ?_
    refine g_istore_n C (gdec dt_X2_standing 14 rfl) (i := 1) rfl (by decide) (lo2 := [(1, .int (x1 + (w.1 1 x2.toNatClampNeg))), (0, .ref 0), (2, .int x2)]) rfl ?_
    refine g_iinc C (gdec dt_X2_standing 15 rfl) (kk := 2) rfl (v := (x2 + (1 : Int32))) rfl (by decide) (lo2 := [(2, .int (x2 + (1 : Int32))), (1, .int (x1 + (w.1 1 x2.toNatClampNeg))), (0, .ref 0)]) rfl ?_
    refine g_goto C (tgt := 4) (gdec dt_X2_standing 16 rfl) (by decide) ?_
    refine g_sub [2, 1, 0] (lo2 := [(0, .ref 0), (1, .int (x1 + (w.1 1 x2.toNatClampNeg))), (2, .int (x2 + (1 : Int32)))]) rfl ?_
    exact hk4 (x1 + (w.1 1 x2.toNatClampNeg)) (x2 + (1 : Int32)) hf
theorem L_X2_standing_4 {p : Program} {l : Launch} {e : Env} {s : State} {m : MethodId} {args : Array Value} {below : List Frame} {meth : Method} {c : Code} {D : va_G} {cA ad : Nat → Nat} {w : GW} {q : Int32} (C : gC p c cX2_standing meth m s args 3 (some .int) RX2 D cA ad shG) : ∀ (n : Nat) (x1 : Int32) (x2 : Int32), f_X2_standing_4 w n x1 x2 = some q → gW p l e (gRm 1 120) s m args below meth c D cA ad shG 3 0 0 (gQ below D cA ad shG (some (.int q)) w args s) 4 [(0, .ref 0), (1, .int x1), (2, .int x2)] [] w := by
  intro n
  induction n with
  | zero => intro _ _ hf; cases hf
  | succ n ih => intro x1 x2 hf; exact Lb_X2_standing_4 C ih x1 x2 hf
set_option maxHeartbeats 4000000 in
set_option maxRecDepth 100000 in
theorem c_X2_standing (l : Launch) (D : va_G) (cA ad : Nat → Nat) (hin : gInj ad shG.length) (w : GW) (q : Int32) (hf : F_X2_standing w = some q) : gMet l yX2_standing cX2_standing 3 (some .int) 1 120 D cA ad shG [.ref 0] w (some (.int q)) w := by
  refine g_entry (by decide) hin (Nat.le_of_ble_eq_true rfl) ?_
  intro p e s m args below meth c C
  unfold F_X2_standing at hf
  show gW p l e (gRm 1 120) s m args below meth c D cA ad shG 3 0 0 (gQ below D cA ad shG (some (.int q)) w args s) 0 [(0, .ref 0)] [] w
  refine g_iconst C (gdec dt_X2_standing 0 rfl) ic_0 ?_
  refine g_istore_n C (gdec dt_X2_standing 1 rfl) (i := 1) rfl (by decide) (lo2 := [(1, .int (0 : Int32)), (0, .ref 0)]) rfl ?_
  refine g_iconst C (gdec dt_X2_standing 2 rfl) ic_0 ?_
  refine g_istore_n C (gdec dt_X2_standing 3 rfl) (i := 2) rfl (by decide) (lo2 := [(2, .int (0 : Int32)), (1, .int (0 : Int32)), (0, .ref 0)]) rfl ?_
  refine g_sub [2, 1, 0] (lo2 := [(0, .ref 0), (1, .int (0 : Int32)), (2, .int (0 : Int32))]) rfl ?_
  exact L_X2_standing_4 C FU (0 : Int32) (0 : Int32) hf
set_option maxHeartbeats 4000000 in
set_option maxRecDepth 100000 in
theorem L_X2_gainBy_36 {p : Program} {l : Launch} {e : Env} {s : State} {m : MethodId} {args : Array Value} {below : List Frame} {meth : Method} {c : Code} {D : va_G} {cA ad : Nat → Nat} {w : GW} {q : Int32} (C : gC p c cX2_gainBy meth m s args 3 (some .int) RX2 D cA ad shG) (x1 : Int32) (s0 : Int32) (hf : f_X2_gainBy_36 w x1 s0 = some q) : gW p l e (gRm 2 140) s m args below meth c D cA ad shG 3 0 0 (gQ below D cA ad shG (some (.int q)) w args s) 36 [(0, .ref 0), (1, .int x1)] [.int s0] w := by
  unfold f_X2_gainBy_36 at hf
  refine g_aload_n C (gdec dt_X2_gainBy 20 rfl) (i := 0) rfl rfl ?_
  refine g_getr C (j := 1) kf_X2_9 rfl rfl (gdec dt_X2_gainBy 21 rfl) ?_
  refine g_iload_n C (gdec dt_X2_gainBy 22 rfl) (i := 1) rfl rfl ?_
  obtain ⟨hg7, hf⟩ := gif hf
  refine g_iald C (i := 1) rfl hg7 rfl (gdec dt_X2_gainBy 23 rfl) ?_
  refine g_isub C (gdec dt_X2_gainBy 24 rfl) ?_
  cases hf
  exact g_iret C rfl (gdec dt_X2_gainBy 25 rfl)
set_option maxHeartbeats 4000000 in
set_option maxRecDepth 100000 in
theorem c_X2_gainBy (l : Launch) (D : va_G) (cA ad : Nat → Nat) (hin : gInj ad shG.length) (w : GW) (x1 : Int32) (x2 : Int32) (q : Int32) (hf : F_X2_gainBy w x1 x2 = some q) : gMet l yX2_gainBy cX2_gainBy 3 (some .int) 2 140 D cA ad shG [.ref 0, .int x1, .int x2] w (some (.int q)) w := by
  refine g_entry (by decide) hin (Nat.le_of_ble_eq_true rfl) ?_
  intro p e s m args below meth c C
  unfold F_X2_gainBy at hf
  show gW p l e (gRm 2 140) s m args below meth c D cA ad shG 3 0 0 (gQ below D cA ad shG (some (.int q)) w args s) 0 [(0, .ref 0), (1, .int x1), (2, .int x2)] [] w
  refine g_iload_n C (gdec dt_X2_gainBy 0 rfl) (i := 1) rfl rfl ?_
  refine g_if_lt C (tgt := 12) (gdec dt_X2_gainBy 1 rfl) (by decide) (fun hc1 => ?_) (fun hc1 => ?_)
  · have hf := (if_pos hc1).symm.trans hf
    refine g_iconst C (gdec dt_X2_gainBy 6 rfl) ic_0 ?_
    cases hf
    exact g_iret C rfl (gdec dt_X2_gainBy 7 rfl)
  · have hf := (if_neg hc1).symm.trans hf
    refine g_iload_n C (gdec dt_X2_gainBy 2 rfl) (i := 1) rfl rfl ?_
    refine g_aload_n C (gdec dt_X2_gainBy 3 rfl) (i := 0) rfl rfl ?_
    refine g_geti C kf_X2_27 rfl rfl (gdec dt_X2_gainBy 4 rfl) ?_
    refine g_icmp_lt C (tgt := 14) (gdec dt_X2_gainBy 5 rfl) (by decide) (fun hc2 => ?_) (fun hc2 => ?_)
    · have hf := (if_pos hc2).symm.trans hf
      refine g_iload_n C (gdec dt_X2_gainBy 8 rfl) (i := 2) rfl rfl ?_
      obtain ⟨q3, hq3, hf⟩ := Option.bind_eq_some_iff.mp hf
      refine g_invSs e_nil [.int x2] [] C (c_X2_isSittersTurn l D cA _ (gInj_sub em_e_nil_shG (gCi C)) (gsub w e_nil) x2 q3 hq3) em_e_nil_shG (by decide) rfl kT_X2_isSittersTurn kl_X2_44 kst_X2_isSittersTurn rfl rfl ⟨by decide, by decide⟩ gk0 (Nat.le_of_ble_eq_true rfl) (gdec dt_X2_gainBy 9 rfl) rfl (st2 := [.int q3]) (w2 := w) rfl (gput_sub _ _) ?_
      refine g_if_eq C (tgt := 30) (gdec dt_X2_gainBy 10 rfl) (by decide) (fun hc4 => ?_) (fun hc4 => ?_)
      · have hf := (if_pos hc4).symm.trans hf
        refine g_aload_n C (gdec dt_X2_gainBy 16 rfl) (i := 0) rfl rfl ?_
        refine g_getr C (j := 3) kf_X2_18 rfl rfl (gdec dt_X2_gainBy 17 rfl) ?_
        refine g_iload_n C (gdec dt_X2_gainBy 18 rfl) (i := 1) rfl rfl ?_
        obtain ⟨hg5, hf⟩ := gif hf
        refine g_iald C (i := 3) rfl hg5 rfl (gdec dt_X2_gainBy 19 rfl) ?_
        refine g_sub [0, 1] (lo2 := [(0, .ref 0), (1, .int x1)]) rfl ?_
        exact L_X2_gainBy_36 C x1 (w.1 3 x1.toNatClampNeg) hf
      · have hf := (if_neg hc4).symm.trans hf
        refine g_aload_n C (gdec dt_X2_gainBy 11 rfl) (i := 0) rfl rfl ?_
        refine g_getr C (j := 2) kf_X2_15 rfl rfl (gdec dt_X2_gainBy 12 rfl) ?_
        refine g_iload_n C (gdec dt_X2_gainBy 13 rfl) (i := 1) rfl rfl ?_
        obtain ⟨hg6, hf⟩ := gif hf
        refine g_iald C (i := 2) rfl hg6 rfl (gdec dt_X2_gainBy 14 rfl) ?_
        refine g_goto C (tgt := 36) (gdec dt_X2_gainBy 15 rfl) (by decide) ?_
        refine g_sub [0, 1] (lo2 := [(0, .ref 0), (1, .int x1)]) rfl ?_
        exact L_X2_gainBy_36 C x1 (w.1 2 x1.toNatClampNeg) hf
    · have hf := (if_neg hc2).symm.trans hf
      refine g_iconst C (gdec dt_X2_gainBy 6 rfl) ic_0 ?_
      cases hf
      exact g_iret C rfl (gdec dt_X2_gainBy 7 rfl)
