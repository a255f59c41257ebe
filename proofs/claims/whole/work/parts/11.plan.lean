def tb_X5_hasStep : List (Nat × Jvm.ClassFile.Instr × Nat) := [(0, .iload_n 1, 1), (1, .ifCond .lt 21, 3), (4, .iload_n 1, 1), (5, .aload_n 0, 1), (6, .getfield 37, 3), (9, .if_icmp .ge 13, 3), (12, .iload_n 1, 1), (13, .bipush 30, 2), (15, .if_icmp .ge 7, 3), (18, .iconst 1, 1), (19, .goto 4, 3), (22, .iconst 0, 1), (23, .ireturn, 1)]
set_option maxRecDepth 100000 in
theorem dt_X5_hasStep : ∀ q ∈ tb_X5_hasStep, decode cX5_hasStep q.1 = .ok q.2 := by decide +kernel
def tb_X5_closeOf : List (Nat × Jvm.ClassFile.Instr × Nat) := [(0, .aload_n 0, 1), (1, .iload_n 1, 1), (2, .invokevirtual 47, 3), (5, .ifCond .eq 12, 3), (8, .aload_n 0, 1), (9, .getfield 30, 3), (12, .iload_n 1, 1), (13, .iaload, 1), (14, .goto 4, 3), (17, .iconst (-1), 1), (18, .ireturn, 1)]
set_option maxRecDepth 100000 in
theorem dt_X5_closeOf : ∀ q ∈ tb_X5_closeOf, decode cX5_closeOf q.1 = .ok q.2 := by decide +kernel
def tb_X5_clear : List (Nat × Jvm.ClassFile.Instr × Nat) := [(0, .aload_n 0, 1), (1, .iconst 0, 1), (2, .putfield 33, 3), (5, .aload_n 0, 1), (6, .iconst 0, 1), (7, .putfield 37, 3), (10, .return_, 1)]
set_option maxRecDepth 100000 in
theorem dt_X5_clear : ∀ q ∈ tb_X5_clear, decode cX5_clear q.1 = .ok q.2 := by decide +kernel
def tb_X5_copyFrom : List (Nat × Jvm.ClassFile.Instr × Nat) := [(0, .aload_n 0, 1), (1, .aload_n 1, 1), (2, .getfield 33, 3), (5, .putfield 33, 3), (8, .aload_n 0, 1), (9, .aload_n 1, 1), (10, .getfield 37, 3), (13, .putfield 37, 3), (16, .aload_n 1, 1), (17, .getfield 9, 3), (20, .iconst 0, 1), (21, .aload_n 0, 1), (22, .getfield 9, 3), (25, .iconst 0, 1), (26, .bipush 30, 2), (28, .invokestatic 41, 3), (31, .aload_n 1, 1), (32, .getfield 15, 3), (35, .iconst 0, 1), (36, .aload_n 0, 1), (37, .getfield 15, 3), (40, .iconst 0, 1), (41, .bipush 30, 2), (43, .invokestatic 41, 3), (46, .aload_n 1, 1), (47, .getfield 18, 3), (50, .iconst 0, 1), (51, .aload_n 0, 1), (52, .getfield 18, 3), (55, .iconst 0, 1), (56, .bipush 30, 2), (58, .invokestatic 41, 3), (61, .aload_n 1, 1), (62, .getfield 21, 3), (65, .iconst 0, 1), (66, .aload_n 0, 1), (67, .getfield 21, 3), (70, .iconst 0, 1), (71, .bipush 30, 2), (73, .invokestatic 41, 3), (76, .aload_n 1, 1), (77, .getfield 24, 3), (80, .iconst 0, 1), (81, .aload_n 0, 1), (82, .getfield 24, 3), (85, .iconst 0, 1), (86, .bipush 30, 2), (88, .invokestatic 41, 3), (91, .aload_n 1, 1), (92, .getfield 27, 3), (95, .iconst 0, 1), (96, .aload_n 0, 1), (97, .getfield 27, 3), (100, .iconst 0, 1), (101, .bipush 30, 2), (103, .invokestatic 41, 3), (106, .aload_n 1, 1), (107, .getfield 30, 3), (110, .iconst 0, 1), (111, .aload_n 0, 1), (112, .getfield 30, 3), (115, .iconst 0, 1), (116, .bipush 30, 2), (118, .invokestatic 41, 3), (121, .return_, 1)]
set_option maxRecDepth 100000 in
theorem dt_X5_copyFrom : ∀ q ∈ tb_X5_copyFrom, decode cX5_copyFrom q.1 = .ok q.2 := by decide +kernel
def tb_X5_addStep : List (Nat × Jvm.ClassFile.Instr × Nat) := [(0, .aload_n 0, 1), (1, .getfield 37, 3), (4, .bipush 30, 2), (6, .if_icmp .lt 5, 3), (9, .iconst (-1), 1), (10, .ireturn, 1), (11, .aload_n 0, 1), (12, .getfield 9, 3), (15, .aload_n 0, 1), (16, .getfield 37, 3), (19, .iload_n 1, 1), (20, .iastore, 1), (21, .aload_n 0, 1), (22, .getfield 15, 3), (25, .aload_n 0, 1), (26, .getfield 37, 3), (29, .iconst (-1), 1), (30, .iastore, 1), (31, .aload_n 0, 1), (32, .getfield 18, 3), (35, .aload_n 0, 1), (36, .getfield 37, 3), (39, .iconst (-1), 1), (40, .iastore, 1), (41, .aload_n 0, 1), (42, .getfield 21, 3), (45, .aload_n 0, 1), (46, .getfield 37, 3), (49, .iconst 0, 1), (50, .iastore, 1), (51, .aload_n 0, 1), (52, .getfield 24, 3), (55, .aload_n 0, 1), (56, .getfield 37, 3), (59, .iconst (-1), 1), (60, .iastore, 1), (61, .aload_n 0, 1), (62, .getfield 27, 3), (65, .aload_n 0, 1), (66, .getfield 37, 3), (69, .iconst 0, 1), (70, .iastore, 1), (71, .aload_n 0, 1), (72, .getfield 30, 3), (75, .aload_n 0, 1), (76, .getfield 37, 3), (79, .iconst (-1), 1), (80, .iastore, 1), (81, .aload_n 0, 1), (82, .dup, 1), (83, .getfield 37, 3), (86, .iconst 1, 1), (87, .iadd, 1), (88, .putfield 37, 3), (91, .aload_n 0, 1), (92, .getfield 37, 3), (95, .iconst 1, 1), (96, .isub, 1), (97, .ireturn, 1)]
set_option maxRecDepth 100000 in
theorem dt_X5_addStep : ∀ q ∈ tb_X5_addStep, decode cX5_addStep q.1 = .ok q.2 := by decide +kernel
def tb_X5_closeHere : List (Nat × Jvm.ClassFile.Instr × Nat) := [(0, .aload_n 0, 1), (1, .iload_n 1, 1), (2, .invokevirtual 47, 3), (5, .ifCond .eq 13, 3), (8, .aload_n 0, 1), (9, .getfield 30, 3), (12, .iload_n 1, 1), (13, .aload_n 0, 1), (14, .getfield 37, 3), (17, .iastore, 1), (18, .return_, 1)]
set_option maxRecDepth 100000 in
theorem dt_X5_closeHere : ∀ q ∈ tb_X5_closeHere, decode cX5_closeHere q.1 = .ok q.2 := by decide +kernel
def F_X5_hasStep (w : GW) (x1 : Int32) : Option Int32 := (if x1 < 0 then (some (0 : Int32)) else (if (w.1 0 1) ≤ x1 then (some (0 : Int32)) else (if (30 : Int32) ≤ x1 then (some (0 : Int32)) else (some (1 : Int32)))))
def F_X5_closeOf (w : GW) (x1 : Int32) : Option Int32 := ((F_X5_hasStep w x1).bind fun q1 => (if q1 = 0 then (some (-1 : Int32)) else (if gin x1 30 then (some (w.1 7 x1.toNatClampNeg)) else none)))
def F_X5_clear (w : GW) : Option GW := (some (gI (gI w 0 0 (0 : Int32)) 0 1 (0 : Int32)))
def F_X5_copyFrom (w : GW) : Option GW := (if (w.1 8 0) = 0 ∨ (w.1 8 0) = 1 then (some (gcpI (gcpI (gcpI (gcpI (gcpI (gcpI (gcpI (gI (gI w 0 0 (w.1 8 0)) 0 1 (w.1 8 1)) 9 1 0 0 30) 10 2 0 0 30) 11 3 0 0 30) 12 4 0 0 30) 13 5 0 0 30) 14 6 0 0 30) 15 7 0 0 30)) else none)
def F_X5_addStep (x1 : Int32) (w : GW) : Option (Int32 × GW) := (if (w.1 0 1) < (30 : Int32) then (if gin (w.1 0 1) 30 then (some ((((w.1 0 1) + (1 : Int32)) - (1 : Int32)), (gI (gI (gI (gI (gI (gI (gI (gI w 1 (w.1 0 1).toNatClampNeg x1) 2 (w.1 0 1).toNatClampNeg (-1 : Int32)) 3 (w.1 0 1).toNatClampNeg (-1 : Int32)) 4 (w.1 0 1).toNatClampNeg (0 : Int32)) 5 (w.1 0 1).toNatClampNeg (-1 : Int32)) 6 (w.1 0 1).toNatClampNeg (0 : Int32)) 7 (w.1 0 1).toNatClampNeg (-1 : Int32)) 0 1 ((w.1 0 1) + (1 : Int32))))) else none) else (some ((-1 : Int32), w)))
def F_X5_closeHere (x1 : Int32) (w : GW) : Option GW := ((F_X5_hasStep w x1).bind fun q1 => (if q1 = 0 then (some w) else (if gin x1 30 then (some (gI w 7 x1.toNatClampNeg (w.1 0 1))) else none)))
set_option maxHeartbeats 4000000 in
set_option maxRecDepth 100000 in
theorem c_X5_hasStep (l : Launch) (D : va_G) (cA ad : Nat → Nat) (hin : gInj ad shP.length) (w : GW) (x1 : Int32) (q : Int32) (hf : F_X5_hasStep w x1 = some q) : gMet l yX5_hasStep cX5_hasStep 2 (some .boolean) 1 120 D cA ad shP [.ref 0, .int x1] w (some (.int q)) w := by
  refine g_entry (by decide) hin (Nat.le_of_ble_eq_true rfl) ?_
  intro p e s m args below meth c C
  unfold F_X5_hasStep at hf
  show gW p l e (gRm 1 120) s m args below meth c D cA ad shP 2 0 0 (gQ below D cA ad shP (some (.int q)) w args s) 0 [(0, .ref 0), (1, .int x1)] [] w
  refine g_iload_n C (gdec dt_X5_hasStep 0 rfl) (i := 1) rfl rfl ?_
  refine g_if_lt C (tgt := 22) (gdec dt_X5_hasStep 1 rfl) (by decide) (fun hc1 => ?_) (fun hc1 => ?_)
  · have hf := (if_pos hc1).symm.trans hf
    refine g_iconst C (gdec dt_X5_hasStep 11 rfl) ic_0 ?_
    cases hf
    exact g_zret C (Or.inl rfl) rfl (gdec dt_X5_hasStep 12 rfl)
  · have hf := (if_neg hc1).symm.trans hf
    refine g_iload_n C (gdec dt_X5_hasStep 2 rfl) (i := 1) rfl rfl ?_
    refine g_aload_n C (gdec dt_X5_hasStep 3 rfl) (i := 0) rfl rfl ?_
    refine g_geti C kf_X5_37 rfl rfl (gdec dt_X5_hasStep 4 rfl) ?_
    refine g_icmp_ge C (tgt := 22) (gdec dt_X5_hasStep 5 rfl) (by decide) (fun hc2 => ?_) (fun hc2 => ?_)
    · have hf := (if_pos hc2).symm.trans hf
      refine g_iconst C (gdec dt_X5_hasStep 11 rfl) ic_0 ?_
      cases hf
      exact g_zret C (Or.inl rfl) rfl (gdec dt_X5_hasStep 12 rfl)
    · have hf := (if_neg hc2).symm.trans hf
      refine g_iload_n C (gdec dt_X5_hasStep 6 rfl) (i := 1) rfl rfl ?_
      refine g_bipush C (gdec dt_X5_hasStep 7 rfl) bc_30 ?_
      refine g_icmp_ge C (tgt := 22) (gdec dt_X5_hasStep 8 rfl) (by decide) (fun hc3 => ?_) (fun hc3 => ?_)
      · have hf := (if_pos hc3).symm.trans hf
        refine g_iconst C (gdec dt_X5_hasStep 11 rfl) ic_0 ?_
        cases hf
        exact g_zret C (Or.inl rfl) rfl (gdec dt_X5_hasStep 12 rfl)
      · have hf := (if_neg hc3).symm.trans hf
        refine g_iconst C (gdec dt_X5_hasStep 9 rfl) ic_1 ?_
        refine g_goto C (tgt := 23) (gdec dt_X5_hasStep 10 rfl) (by decide) ?_
        cases hf
        exact g_zret C (Or.inr rfl) rfl (gdec dt_X5_hasStep 12 rfl)
set_option maxHeartbeats 4000000 in
set_option maxRecDepth 100000 in
theorem c_X5_closeOf (l : Launch) (D : va_G) (cA ad : Nat → Nat) (hin : gInj ad shP.length) (w : GW) (x1 : Int32) (q : Int32) (hf : F_X5_closeOf w x1 = some q) : gMet l yX5_closeOf cX5_closeOf 2 (some .int) 2 141 D cA ad shP [.ref 0, .int x1] w (some (.int q)) w := by
  refine g_entry (by decide) hin (Nat.le_of_ble_eq_true rfl) ?_
  intro p e s m args below meth c C
  unfold F_X5_closeOf at hf
  show gW p l e (gRm 2 141) s m args below meth c D cA ad shP 2 0 0 (gQ below D cA ad shP (some (.int q)) w args s) 0 [(0, .ref 0), (1, .int x1)] [] w
  refine g_aload_n C (gdec dt_X5_closeOf 0 rfl) (i := 0) rfl rfl ?_
  refine g_iload_n C (gdec dt_X5_closeOf 1 rfl) (i := 1) rfl rfl ?_
  obtain ⟨q1, hq1, hf⟩ := Option.bind_eq_some_iff.mp hf
  refine g_invV [.int x1] [] C (c_X5_hasStep l D cA _ (gCi C) w x1 q1 hq1) kT_X5_hasStep kl_X5_47 kim_X5_hasStep kse_X5_hasStep rfl rfl (i := 0) rfl rfl ⟨by decide, by decide⟩ gk0 (Nat.le_of_ble_eq_true rfl) (gdec dt_X5_closeOf 2 rfl) rfl (st2 := [.int q1]) rfl ?_
  refine g_if_eq C (tgt := 17) (gdec dt_X5_closeOf 3 rfl) (by decide) (fun hc2 => ?_) (fun hc2 => ?_)
  · have hf := (if_pos hc2).symm.trans hf
    refine g_iconst C (gdec dt_X5_closeOf 9 rfl) ic_m1 ?_
    cases hf
    exact g_iret C rfl (gdec dt_X5_closeOf 10 rfl)
  · have hf := (if_neg hc2).symm.trans hf
    refine g_aload_n C (gdec dt_X5_closeOf 4 rfl) (i := 0) rfl rfl ?_
    refine g_getr C (j := 7) kf_X5_30 rfl rfl (gdec dt_X5_closeOf 5 rfl) ?_
    refine g_iload_n C (gdec dt_X5_closeOf 6 rfl) (i := 1) rfl rfl ?_
    obtain ⟨hg3, hf⟩ := gif hf
    refine g_iald C (i := 7) rfl hg3 rfl (gdec dt_X5_closeOf 7 rfl) ?_
    refine g_goto C (tgt := 18) (gdec dt_X5_closeOf 8 rfl) (by decide) ?_
    cases hf
    exact g_iret C rfl (gdec dt_X5_closeOf 10 rfl)
set_option maxHeartbeats 4000000 in
set_option maxRecDepth 100000 in
theorem c_X5_clear (l : Launch) (D : va_G) (cA ad : Nat → Nat) (hin : gInj ad shP.length) (w : GW) (q : GW) (hf : F_X5_clear w = some q) : gMet l yX5_clear cX5_clear 1 none 1 120 D cA ad shP [.ref 0] w none q := by
  refine g_entry (by decide) hin (Nat.le_of_ble_eq_true rfl) ?_
  intro p e s m args below meth c C
  unfold F_X5_clear at hf
  show gW p l e (gRm 1 120) s m args below meth c D cA ad shP 1 0 0 (gQ below D cA ad shP none q args s) 0 [(0, .ref 0)] [] w
  refine g_aload_n C (gdec dt_X5_clear 0 rfl) (i := 0) rfl rfl ?_
  refine g_iconst C (gdec dt_X5_clear 1 rfl) ic_0 ?_
  refine g_putz C kf_X5_33 rfl rfl (Or.inl rfl) (gdec dt_X5_clear 2 rfl) ?_
  refine g_aload_n C (gdec dt_X5_clear 3 rfl) (i := 0) rfl rfl ?_
  refine g_iconst C (gdec dt_X5_clear 4 rfl) ic_0 ?_
  refine g_puti C kf_X5_37 rfl rfl (gdec dt_X5_clear 5 rfl) ?_
  cases hf
  exact g_vret C rfl (gdec dt_X5_clear 6 rfl)
set_option maxHeartbeats 4000000 in
set_option maxRecDepth 100000 in
theorem c_X5_copyFrom (l : Launch) (D : va_G) (cA ad : Nat → Nat) (hin : gInj ad shPP.length) (w : GW) (q : GW) (hf : F_X5_copyFrom w = some q) : gMet l yX5_copyFrom cX5_copyFrom 2 none 1 120 D cA ad shPP [.ref 0, .ref 8] w none q := by
  refine g_entry (by decide) hin (Nat.le_of_ble_eq_true rfl) ?_
  intro p e s m args below meth c C
  unfold F_X5_copyFrom at hf
  show gW p l e (gRm 1 120) s m args below meth c D cA ad shPP 2 0 0 (gQ below D cA ad shPP none q args s) 0 [(0, .ref 0), (1, .ref 8)] [] w
  refine g_aload_n C (gdec dt_X5_copyFrom 0 rfl) (i := 0) rfl rfl ?_
  refine g_aload_n C (gdec dt_X5_copyFrom 1 rfl) (i := 1) rfl rfl ?_
  refine g_geti C kf_X5_33 rfl rfl (gdec dt_X5_copyFrom 2 rfl) ?_
  obtain ⟨hb1, hf⟩ := gif hf
  refine g_putz C kf_X5_33 rfl rfl hb1 (gdec dt_X5_copyFrom 3 rfl) ?_
  refine g_aload_n C (gdec dt_X5_copyFrom 4 rfl) (i := 0) rfl rfl ?_
  refine g_aload_n C (gdec dt_X5_copyFrom 5 rfl) (i := 1) rfl rfl ?_
  refine g_getiv C kf_X5_37 rfl rfl (gdec dt_X5_copyFrom 6 rfl) (v := (w.1 8 1)) rfl ?_
  refine g_puti C kf_X5_37 rfl rfl (gdec dt_X5_copyFrom 7 rfl) ?_
  refine g_aload_n C (gdec dt_X5_copyFrom 8 rfl) (i := 1) rfl rfl ?_
  refine g_getr C (j := 9) kf_X5_9 rfl rfl (gdec dt_X5_copyFrom 9 rfl) ?_
  refine g_iconst C (gdec dt_X5_copyFrom 10 rfl) ic_0 ?_
  refine g_aload_n C (gdec dt_X5_copyFrom 11 rfl) (i := 0) rfl rfl ?_
  refine g_getr C (j := 1) kf_X5_9 rfl rfl (gdec dt_X5_copyFrom 12 rfl) ?_
  refine g_iconst C (gdec dt_X5_copyFrom 13 rfl) ic_0 ?_
  refine g_bipush C (gdec dt_X5_copyFrom 14 rfl) bc_30 ?_
  refine g_cpI C (gdec dt_X5_copyFrom 15 rfl) kl_X5_41 kac_native kac_static ki_System (i0 := 9) (i1 := 1) (kz := 0) (kd := 0) (kn := 30) (by exact rfl) (by exact rfl) (by decide) (by decide) (by decide) (by decide) (by decide) (by decide) (by decide) (by decide) (Nat.le_of_ble_eq_true rfl) ⟨by decide, by decide⟩ ?_
  refine g_aload_n C (gdec dt_X5_copyFrom 16 rfl) (i := 1) rfl rfl ?_
  refine g_getr C (j := 10) kf_X5_15 rfl rfl (gdec dt_X5_copyFrom 17 rfl) ?_
  refine g_iconst C (gdec dt_X5_copyFrom 18 rfl) ic_0 ?_
  refine g_aload_n C (gdec dt_X5_copyFrom 19 rfl) (i := 0) rfl rfl ?_
  refine g_getr C (j := 2) kf_X5_15 rfl rfl (gdec dt_X5_copyFrom 20 rfl) ?_
  refine g_iconst C (gdec dt_X5_copyFrom 21 rfl) ic_0 ?_
  refine g_bipush C (gdec dt_X5_copyFrom 22 rfl) bc_30 ?_
  refine g_cpI C (gdec dt_X5_copyFrom 23 rfl) kl_X5_41 kac_native kac_static ki_System (i0 := 10) (i1 := 2) (kz := 0) (kd := 0) (kn := 30) (by exact rfl) (by exact rfl) (by decide) (by decide) (by decide) (by decide) (by decide) (by decide) (by decide) (by decide) (Nat.le_of_ble_eq_true rfl) ⟨by decide, by decide⟩ ?_
  refine g_aload_n C (gdec dt_X5_copyFrom 24 rfl) (i := 1) rfl rfl ?_
  refine g_getr C (j := 11) kf_X5_18 rfl rfl (gdec dt_X5_copyFrom 25 rfl) ?_
  refine g_iconst C (gdec dt_X5_copyFrom 26 rfl) ic_0 ?_
  refine g_aload_n C (gdec dt_X5_copyFrom 27 rfl) (i := 0) rfl rfl ?_
  refine g_getr C (j := 3) kf_X5_18 rfl rfl (gdec dt_X5_copyFrom 28 rfl) ?_
  refine g_iconst C (gdec dt_X5_copyFrom 29 rfl) ic_0 ?_
  refine g_bipush C (gdec dt_X5_copyFrom 30 rfl) bc_30 ?_
  refine g_cpI C (gdec dt_X5_copyFrom 31 rfl) kl_X5_41 kac_native kac_static ki_System (i0 := 11) (i1 := 3) (kz := 0) (kd := 0) (kn := 30) (by exact rfl) (by exact rfl) (by decide) (by decide) (by decide) (by decide) (by decide) (by decide) (by decide) (by decide) (Nat.le_of_ble_eq_true rfl) ⟨by decide, by decide⟩ ?_
  refine g_aload_n C (gdec dt_X5_copyFrom 32 rfl) (i := 1) rfl rfl ?_
  refine g_getr C (j := 12) kf_X5_21 rfl rfl (gdec dt_X5_copyFrom 33 rfl) ?_
  refine g_iconst C (gdec dt_X5_copyFrom 34 rfl) ic_0 ?_
  refine g_aload_n C (gdec dt_X5_copyFrom 35 rfl) (i := 0) rfl rfl ?_
  refine g_getr C (j := 4) kf_X5_21 rfl rfl (gdec dt_X5_copyFrom 36 rfl) ?_
  refine g_iconst C (gdec dt_X5_copyFrom 37 rfl) ic_0 ?_
  refine g_bipush C (gdec dt_X5_copyFrom 38 rfl) bc_30 ?_
  refine g_cpI C (gdec dt_X5_copyFrom 39 rfl) kl_X5_41 kac_native kac_static ki_System (i0 := 12) (i1 := 4) (kz := 0) (kd := 0) (kn := 30) (by exact rfl) (by exact rfl) (by decide) (by decide) (by decide) (by decide) (by decide) (by decide) (by decide) (by decide) (Nat.le_of_ble_eq_true rfl) ⟨by decide, by decide⟩ ?_
  refine g_aload_n C (gdec dt_X5_copyFrom 40 rfl) (i := 1) rfl rfl ?_
  refine g_getr C (j := 13) kf_X5_24 rfl rfl (gdec dt_X5_copyFrom 41 rfl) ?_
  refine g_iconst C (gdec dt_X5_copyFrom 42 rfl) ic_0 ?_
  refine g_aload_n C (gdec dt_X5_copyFrom 43 rfl) (i := 0) rfl rfl ?_
  refine g_getr C (j := 5) kf_X5_24 rfl rfl (gdec dt_X5_copyFrom 44 rfl) ?_
  refine g_iconst C (gdec dt_X5_copyFrom 45 rfl) ic_0 ?_
  refine g_bipush C (gdec dt_X5_copyFrom 46 rfl) bc_30 ?_
  refine g_cpI C (gdec dt_X5_copyFrom 47 rfl) kl_X5_41 kac_native kac_static ki_System (i0 := 13) (i1 := 5) (kz := 0) (kd := 0) (kn := 30) (by exact rfl) (by exact rfl) (by decide) (by decide) (by decide) (by decide) (by decide) (by decide) (by decide) (by decide) (Nat.le_of_ble_eq_true rfl) ⟨by decide, by decide⟩ ?_
  refine g_aload_n C (gdec dt_X5_copyFrom 48 rfl) (i := 1) rfl rfl ?_
  refine g_getr C (j := 14) kf_X5_27 rfl rfl (gdec dt_X5_copyFrom 49 rfl) ?_
  refine g_iconst C (gdec dt_X5_copyFrom 50 rfl) ic_0 ?_
  refine g_aload_n C (gdec dt_X5_copyFrom 51 rfl) (i := 0) rfl rfl ?_
  refine g_getr C (j := 6) kf_X5_27 rfl rfl (gdec dt_X5_copyFrom 52 rfl) ?_
  refine g_iconst C (gdec dt_X5_copyFrom 53 rfl) ic_0 ?_
  refine g_bipush C (gdec dt_X5_copyFrom 54 rfl) bc_30 ?_
  refine g_cpI C (gdec dt_X5_copyFrom 55 rfl) kl_X5_41 kac_native kac_static ki_System (i0 := 14) (i1 := 6) (kz := 0) (kd := 0) (kn := 30) (by exact rfl) (by exact rfl) (by decide) (by decide) (by decide) (by decide) (by decide) (by decide) (by decide) (by decide) (Nat.le_of_ble_eq_true rfl) ⟨by decide, by decide⟩ ?_
  refine g_aload_n C (gdec dt_X5_copyFrom 56 rfl) (i := 1) rfl rfl ?_
  refine g_getr C (j := 15) kf_X5_30 rfl rfl (gdec dt_X5_copyFrom 57 rfl) ?_
  refine g_iconst C (gdec dt_X5_copyFrom 58 rfl) ic_0 ?_
  refine g_aload_n C (gdec dt_X5_copyFrom 59 rfl) (i := 0) rfl rfl ?_
  refine g_getr C (j := 7) kf_X5_30 rfl rfl (gdec dt_X5_copyFrom 60 rfl) ?_
  refine g_iconst C (gdec dt_X5_copyFrom 61 rfl) ic_0 ?_
  refine g_bipush C (gdec dt_X5_copyFrom 62 rfl) bc_30 ?_
  refine g_cpI C (gdec dt_X5_copyFrom 63 rfl) kl_X5_41 kac_native kac_static ki_System (i0 := 15) (i1 := 7) (kz := 0) (kd := 0) (kn := 30) (by exact rfl) (by exact rfl) (by decide) (by decide) (by decide) (by decide) (by decide) (by decide) (by decide) (by decide) (Nat.le_of_ble_eq_true rfl) ⟨by decide, by decide⟩ ?_
  cases hf
  exact g_vret C rfl (gdec dt_X5_copyFrom 64 rfl)
set_option maxHeartbeats 4000000 in
set_option maxRecDepth 100000 in
theorem c_X5_addStep (l : Launch) (D : va_G) (cA ad : Nat → Nat) (hin : gInj ad shP.length) (w : GW) (x1 : Int32) (q : (Int32 × GW)) (hf : F_X5_addStep x1 w = some q) : gMet l yX5_addStep cX5_addStep 2 (some .int) 1 120 D cA ad shP [.ref 0, .int x1] w (some (.int q.1)) q.2 := by
  refine g_entry (by decide) hin (Nat.le_of_ble_eq_true rfl) ?_
  intro p e s m args below meth c C
  unfold F_X5_addStep at hf
  show gW p l e (gRm 1 120) s m args below meth c D cA ad shP 2 0 0 (gQ below D cA ad shP (some (.int q.1)) q.2 args s) 0 [(0, .ref 0), (1, .int x1)] [] w
  refine g_aload_n C (gdec dt_X5_addStep 0 rfl) (i := 0) rfl rfl ?_
  refine g_geti C kf_X5_37 rfl rfl (gdec dt_X5_addStep 1 rfl) ?_
  refine g_bipush C (gdec dt_X5_addStep 2 rfl) bc_30 ?_
  refine g_icmp_lt C (tgt := 11) (gdec dt_X5_addStep 3 rfl) (by decide) (fun hc1 => ?_) (fun hc1 => ?_)
  · have hf := (if_pos hc1).symm.trans hf
    refine g_aload_n C (gdec dt_X5_addStep 6 rfl) (i := 0) rfl rfl ?_
    refine g_getr C (j := 1) kf_X5_9 rfl rfl (gdec dt_X5_addStep 7 rfl) ?_
    refine g_aload_n C (gdec dt_X5_addStep 8 rfl) (i := 0) rfl rfl ?_
    refine g_geti C kf_X5_37 rfl rfl (gdec dt_X5_addStep 9 rfl) ?_
    refine g_iload_n C (gdec dt_X5_addStep 10 rfl) (i := 1) rfl rfl ?_
    obtain ⟨hg2, hf⟩ := gif hf
    refine g_iast C (i := 1) rfl hg2 rfl (gdec dt_X5_addStep 11 rfl) ?_
    refine g_aload_n C (gdec dt_X5_addStep 12 rfl) (i := 0) rfl rfl ?_
    refine g_getr C (j := 2) kf_X5_15 rfl rfl (gdec dt_X5_addStep 13 rfl) ?_
    refine g_aload_n C (gdec dt_X5_addStep 14 rfl) (i := 0) rfl rfl ?_
    refine g_getiv C kf_X5_37 rfl rfl (gdec dt_X5_addStep 15 rfl) (v := (w.1 0 1)) rfl ?_
    refine g_iconst C (gdec dt_X5_addStep 16 rfl) ic_m1 ?_
    refine g_iast C (i := 2) rfl hg2 rfl (gdec dt_X5_addStep 17 rfl) ?_
    refine g_aload_n C (gdec dt_X5_addStep 18 rfl) (i := 0) rfl rfl ?_
    refine g_getr C (j := 3) kf_X5_18 rfl rfl (gdec dt_X5_addStep 19 rfl) ?_
    refine g_aload_n C (gdec dt_X5_addStep 20 rfl) (i := 0) rfl rfl ?_
    refine g_getiv C kf_X5_37 rfl rfl (gdec dt_X5_addStep 21 rfl) (v := (w.1 0 1)) rfl ?_
    refine g_iconst C (gdec dt_X5_addStep 22 rfl) ic_m1 ?_
    refine g_iast C (i := 3) rfl hg2 rfl (gdec dt_X5_addStep 23 rfl) ?_
    refine g_aload_n C (gdec dt_X5_addStep 24 rfl) (i := 0) rfl rfl ?_
    refine g_getr C (j := 4) kf_X5_21 rfl rfl (gdec dt_X5_addStep 25 rfl) ?_
    refine g_aload_n C (gdec dt_X5_addStep 26 rfl) (i := 0) rfl rfl ?_
    refine g_getiv C kf_X5_37 rfl rfl (gdec dt_X5_addStep 27 rfl) (v := (w.1 0 1)) rfl ?_
    refine g_iconst C (gdec dt_X5_addStep 28 rfl) ic_0 ?_
    refine g_iast C (i := 4) rfl hg2 rfl (gdec dt_X5_addStep 29 rfl) ?_
    refine g_aload_n C (gdec dt_X5_addStep 30 rfl) (i := 0) rfl rfl ?_
    refine g_getr C (j := 5) kf_X5_24 rfl rfl (gdec dt_X5_addStep 31 rfl) ?_
    refine g_aload_n C (gdec dt_X5_addStep 32 rfl) (i := 0) rfl rfl ?_
    refine g_getiv C kf_X5_37 rfl rfl (gdec dt_X5_addStep 33 rfl) (v := (w.1 0 1)) rfl ?_
    refine g_iconst C (gdec dt_X5_addStep 34 rfl) ic_m1 ?_
    refine g_iast C (i := 5) rfl hg2 rfl (gdec dt_X5_addStep 35 rfl) ?_
    refine g_aload_n C (gdec dt_X5_addStep 36 rfl) (i := 0) rfl rfl ?_
    refine g_getr C (j := 6) kf_X5_27 rfl rfl (gdec dt_X5_addStep 37 rfl) ?_
    refine g_aload_n C (gdec dt_X5_addStep 38 rfl) (i := 0) rfl rfl ?_
    refine g_getiv C kf_X5_37 rfl rfl (gdec dt_X5_addStep 39 rfl) (v := (w.1 0 1)) rfl ?_
    refine g_iconst C (gdec dt_X5_addStep 40 rfl) ic_0 ?_
    refine g_iast C (i := 6) rfl hg2 rfl (gdec dt_X5_addStep 41 rfl) ?_
    refine g_aload_n C (gdec dt_X5_addStep 42 rfl) (i := 0) rfl rfl ?_
    refine g_getr C (j := 7) kf_X5_30 rfl rfl (gdec dt_X5_addStep 43 rfl) ?_
    refine g_aload_n C (gdec dt_X5_addStep 44 rfl) (i := 0) rfl rfl ?_
    refine g_getiv C kf_X5_37 rfl rfl (gdec dt_X5_addStep 45 rfl) (v := (w.1 0 1)) rfl ?_
    refine g_iconst C (gdec dt_X5_addStep 46 rfl) ic_m1 ?_
    refine g_iast C (i := 7) rfl hg2 rfl (gdec dt_X5_addStep 47 rfl) ?_
    refine g_aload_n C (gdec dt_X5_addStep 48 rfl) (i := 0) rfl rfl ?_
    refine g_dup C (gdec dt_X5_addStep 49 rfl) rfl ?_
    refine g_getiv C kf_X5_37 rfl rfl (gdec dt_X5_addStep 50 rfl) (v := (w.1 0 1)) rfl ?_
    refine g_iconst C (gdec dt_X5_addStep 51 rfl) ic_1 ?_
    refine g_iadd C (gdec dt_X5_addStep 52 rfl) ?_
    refine g_puti C kf_X5_37 rfl rfl (gdec dt_X5_addStep 53 rfl) ?_
    refine g_aload_n C (gdec dt_X5_addStep 54 rfl) (i := 0) rfl rfl ?_
    refine g_getiv C kf_X5_37 rfl rfl (gdec dt_X5_addStep 55 rfl) (v := ((w.1 0 1) + (1 : Int32))) rfl ?_
    refine g_iconst C (gdec dt_X5_addStep 56 rfl) ic_1 ?_
    refine g_isub C (gdec dt_X5_addStep 57 rfl) ?_
    cases hf
    exact g_iret C rfl (gdec dt_X5_addStep 58 rfl)
  · have hf := (if_neg hc1).symm.trans hf
    refine g_iconst C (gdec dt_X5_addStep 4 rfl) ic_m1 ?_
    cases hf
    exact g_iret C rfl (gdec dt_X5_addStep 5 rfl)
set_option maxHeartbeats 4000000 in
set_option maxRecDepth 100000 in
theorem c_X5_closeHere (l : Launch) (D : va_G) (cA ad : Nat → Nat) (hin : gInj ad shP.length) (w : GW) (x1 : Int32) (q : GW) (hf : F_X5_closeHere x1 w = some q) : gMet l yX5_closeHere cX5_closeHere 2 none 2 141 D cA ad shP [.ref 0, .int x1] w none q := by
  refine g_entry (by decide) hin (Nat.le_of_ble_eq_true rfl) ?_
  intro p e s m args below meth c C
  unfold F_X5_closeHere at hf
  show gW p l e (gRm 2 141) s m args below meth c D cA ad shP 2 0 0 (gQ below D cA ad shP none q args s) 0 [(0, .ref 0), (1, .int x1)] [] w
  refine g_aload_n C (gdec dt_X5_closeHere 0 rfl) (i := 0) rfl rfl ?_
  refine g_iload_n C (gdec dt_X5_closeHere 1 rfl) (i := 1) rfl rfl ?_
  obtain ⟨q1, hq1, hf⟩ := Option.bind_eq_some_iff.mp hf
  refine g_invV [.int x1] [] C (c_X5_hasStep l D cA _ (gCi C) w x1 q1 hq1) kT_X5_hasStep kl_X5_47 kim_X5_hasStep kse_X5_hasStep rfl rfl (i := 0) rfl rfl ⟨by decide, by decide⟩ gk0 (Nat.le_of_ble_eq_true rfl) (gdec dt_X5_closeHere 2 rfl) rfl (st2 := [.int q1]) rfl ?_
  refine g_if_eq C (tgt := 18) (gdec dt_X5_closeHere 3 rfl) (by decide) (fun hc2 => ?_) (fun hc2 => ?_)
  · have hf := (if_pos hc2).symm.trans hf
    cases hf
    exact g_vret C rfl (gdec dt_X5_closeHere 10 rfl)
  · have hf := (if_neg hc2).symm.trans hf
    refine g_aload_n C (gdec dt_X5_closeHere 4 rfl) (i := 0) rfl rfl ?_
    refine g_getr C (j := 7) kf_X5_30 rfl rfl (gdec dt_X5_closeHere 5 rfl) ?_
    refine g_iload_n C (gdec dt_X5_closeHere 6 rfl) (i := 1) rfl rfl ?_
    refine g_aload_n C (gdec dt_X5_closeHere 7 rfl) (i := 0) rfl rfl ?_
    refine g_geti C kf_X5_37 rfl rfl (gdec dt_X5_closeHere 8 rfl) ?_
    obtain ⟨hg3, hf⟩ := gif hf
    refine g_iast C (i := 7) rfl hg3 rfl (gdec dt_X5_closeHere 9 rfl) ?_
    cases hf
    exact g_vret C rfl (gdec dt_X5_closeHere 10 rfl)
