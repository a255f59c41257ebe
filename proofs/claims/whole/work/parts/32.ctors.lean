def w00 : GW := (fun _ _ => 0, fun _ _ => 0)
def wM0 : GW := (fun i => if i = 0 then (fun k => if k = 16 then -1 else if k = 17 then -1 else 0) else if i = 4 then upd (upd (upd (upd (fun _ => 0) 0 (-1)) 1 (-1)) 2 (-1)) 3 (-1) else fun _ => 0, fun i => if i = 0 then (fun k => if k = 4 then 1 else 0) else fun _ => 0)
theorem kept_fn (a b c : Nat) (ad : Nat → Nat) (i j k : Nat) (ha : ad i = a) (hb : ad j = b) (hc : ad k = c) : va_up (va_up (va_up (fun _ => (none : Option Nat)) 0 (some a)) 1 (some b)) 2 (some c) = fun n => (([i, j, k] : List Nat)[n]?).map ad := by
  subst ha
  subst hb
  subst hc
  funext n
  match n with
  | 0 => rfl
  | 1 => rfl
  | 2 => rfl
  | n + 3 => rfl
theorem rows_fn (a b c d : Nat) (ad : Nat → Nat) (i j k n : Nat) (ha : ad i = a) (hb : ad j = b) (hc : ad k = c) (hd : ad n = d) : (fun m : Nat => ([a, b, c, d] : List Nat)[m]?) = fun m : Nat => (([i, j, k, n] : List Nat)[m]?).map ad := by
  subst ha
  subst hb
  subst hc
  subst hd
  funext m
  match m with
  | 0 => rfl
  | 1 => rfl
  | 2 => rfl
  | 3 => rfl
  | m + 4 => rfl
def wX0 : GW := (fun i => if i = 14 then (fun k => if k = 0 then 4 else if k = 1 then 100 else 0) else if i = 27 then (fun k => if k = 0 then 4 else if k = 1 then 100 else 0) else if i = 61 then (fun k => if k = 0 then 4 else if k = 1 then 100 else 0) else if i = 83 then (fun k => if k = 0 then 4 else if k = 1 then 100 else 0) else if i = 105 then (fun k => if k = 0 then 4 else if k = 1 then 100 else 0) else if i = 9 then (fun k => if k = 2 then -1 else if k = 4 then -1 else if k = 5 then -1 else 0) else if i = 7 then upd (upd (upd (upd (fun _ => 0) 0 (-1)) 1 (-1)) 2 (-1)) 3 (-1) else fun _ => 0, fun i => if i = 0 then (fun k => if k = 17 then 1 else 0) else fun _ => 0)
theorem ki_X4 : Cond.initialized RX4 ∈ TBL := TBL_of 151 (by decide +kernel) (by decide +kernel)
theorem kl_X0_3 : Cond.methodLink RX0 3 Lib.objectInit ∈ TBL := TBL_at1 121 rfl rfl
theorem kim_obj : Cond.instanceMethod Lib.objectInit ∈ TBL := TBL_at1 26 rfl rfl
theorem kc_obj : Cond.code Lib.objectInit ⟨#[0xb1]⟩ 1 none ∈ TBL := TBL_at1 27 rfl rfl
theorem kac_arr0 : Cond.arrayClass .int ∈ TBL := TBL_of 187 (by decide +kernel) (by decide +kernel)
theorem kac_arr3 : Cond.arrayClass .long ∈ TBL := TBL_of 186 (by decide +kernel) (by decide +kernel)
theorem kl_X0_49 : Cond.methodLink RX0 49 yX0_clear ∈ TBL := TBL_at1 122 rfl rfl
theorem kl_X5_3 : Cond.methodLink RX5 3 Lib.objectInit ∈ TBL := TBL_at1 226 rfl rfl
theorem kl_X8_3 : Cond.methodLink RX8 3 Lib.objectInit ∈ TBL := TBL_at1 53 rfl rfl
theorem kac_arr1 : Cond.arrayClass .byte ∈ TBL := TBL_of 255 (by decide +kernel) (by decide +kernel)
theorem kl_X9_3 : Cond.methodLink RX9 3 Lib.objectInit ∈ TBL := TBL_at1 33 rfl rfl
theorem kcl_X9_9 : Cond.classLink RX9 9 "[[J" ∈ TBL := TBL_of 174 (by decide +kernel) (by decide +kernel)
theorem kl_X1_3 : Cond.methodLink RX1 3 Lib.objectInit ∈ TBL := TBL_at2 35 rfl rfl
theorem kl_X6_3 : Cond.methodLink RX6 3 Lib.objectInit ∈ TBL := TBL_at2 54 rfl rfl
theorem kl_X2_3 : Cond.methodLink RX2 3 Lib.objectInit ∈ TBL := TBL_at2 131 rfl rfl
theorem kl_X3_3 : Cond.methodLink RX3 3 Lib.objectInit ∈ TBL := TBL_at2 78 rfl rfl
theorem kl_X7_3 : Cond.methodLink RX7 3 Lib.objectInit ∈ TBL := TBL_at2 121 rfl rfl
theorem kl_X4_1 : Cond.methodLink RX4 1 Lib.objectInit ∈ TBL := TBL_at2 154 rfl rfl
theorem kcl_X4_7 : Cond.classLink RX4 7 RX0 ∈ TBL := TBL_of 535 (by decide +kernel) (by decide +kernel)
theorem kin_X0 : Cond.instantiable RX0 19 ∈ TBL := TBL_of 257 (by decide +kernel) (by decide +kernel)
theorem df_X0 : ∀ j, j < 19 → defaultValue (tyX0 j) = vp_V [.int 0, .int 0, .int 0, .int 0, .int 0, .int 0, .int 0, .null, .null, .null, .null, .null, .null, .null, .null, .null, .null, .null, .null] j := by decide +kernel
theorem kc_X0_init : Cond.code yX0_init cX0_init 1 none ∈ TBL := TBL_at1 120 rfl rfl
theorem kT_X0_init : gT yX0_init cX0_init 1 none 0 := ⟨ki_X0, kc_X0_init, by decide +kernel, by decide +kernel⟩
theorem kim_X0_init : Cond.instanceMethod yX0_init ∈ TBL := TBL_at1 119 rfl rfl
theorem kl_X4_9 : Cond.methodLink RX4 9 yX0_init ∈ TBL := TBL_at2 156 rfl rfl
theorem kfl_X4_10 : Cond.fieldLink RX4 10 "WebBank$Mark" "bank" "LWebBank$Bank;" ∈ TBL := TBL_at2 159 rfl rfl
theorem kf_X4_10 : gF RX4 10 4 0 true (.object "WebBank$Bank") := ⟨RX4, TX4, 2, tyX4, rfl, inw_X4, tyX4_ok, nmX4, by decide, kfl_X4_10, rfl, by decide +kernel⟩
theorem kcl_X4_16 : Cond.classLink RX4 16 RX5 ∈ TBL := TBL_of 537 (by decide +kernel) (by decide +kernel)
theorem kin_X5 : Cond.instantiable RX5 9 ∈ TBL := TBL_of 362 (by decide +kernel) (by decide +kernel)
theorem df_X5 : ∀ j, j < 9 → defaultValue (tyX5 j) = vp_V [.int 0, .int 0, .null, .null, .null, .null, .null, .null, .null] j := by decide +kernel
theorem kc_X5_init : Cond.code yX5_init cX5_init 1 none ∈ TBL := TBL_at1 225 rfl rfl
theorem kT_X5_init : gT yX5_init cX5_init 1 none 0 := ⟨ki_X5, kc_X5_init, by decide +kernel, by decide +kernel⟩
theorem kim_X5_init : Cond.instanceMethod yX5_init ∈ TBL := TBL_at1 224 rfl rfl
theorem kfl_X4_19 : Cond.fieldLink RX4 19 "WebBank$Mark" "plan" "LWebBank$Plan;" ∈ TBL := TBL_at2 161 rfl rfl
theorem kf_X4_19 : gF RX4 19 4 1 true (.object "WebBank$Plan") := ⟨RX4, TX4, 2, tyX4, rfl, inw_X4, tyX4_ok, nmX4, by decide, kfl_X4_19, rfl, by decide +kernel⟩
theorem kl_X10_3 : Cond.methodLink RX10 3 Lib.objectInit ∈ TBL := TBL_at1 25 rfl rfl
theorem kcl_X10_9 : Cond.classLink RX10 9 RX9 ∈ TBL := TBL_of 168 (by decide +kernel) (by decide +kernel)
theorem kin_X9 : Cond.instantiable RX9 3 ∈ TBL := TBL_of 169 (by decide +kernel) (by decide +kernel)
theorem df_X9 : ∀ j, j < 3 → defaultValue (tyX9 j) = vp_V [.null, .null, .null] j := by decide +kernel
theorem kc_X9_init : Cond.code yX9_init cX9_init 2 none ∈ TBL := TBL_at1 32 rfl rfl
theorem kT_X9_init : gT yX9_init cX9_init 2 none 0 := ⟨ki_X9, kc_X9_init, by decide +kernel, by decide +kernel⟩
theorem kim_X9_init : Cond.instanceMethod yX9_init ∈ TBL := TBL_at1 31 rfl rfl
theorem kl_X10_11 : Cond.methodLink RX10 11 yX9_init ∈ TBL := TBL_at1 30 rfl rfl
theorem kcl_X10_16 : Cond.classLink RX10 16 RX8 ∈ TBL := TBL_of 188 (by decide +kernel) (by decide +kernel)
theorem kin_X8 : Cond.instantiable RX8 17 ∈ TBL := TBL_of 189 (by decide +kernel) (by decide +kernel)
theorem df_X8 : ∀ j, j < 17 → defaultValue (tyX8 j) = vp_V [.int 0, .int 0, .int 0, .long 0, .int 0, .int 0, .int 0, .int 0, .long 0, .int 0, .int 0, .int 0, .int 0, .null, .null, .null, .null] j := by decide +kernel
theorem kc_X8_init : Cond.code yX8_init cX8_init 1 none ∈ TBL := TBL_at1 52 rfl rfl
theorem kT_X8_init : gT yX8_init cX8_init 1 none 0 := ⟨ki_X8, kc_X8_init, by decide +kernel, by decide +kernel⟩
theorem kim_X8_init : Cond.instanceMethod yX8_init ∈ TBL := TBL_at1 51 rfl rfl
theorem kcl_X10_23 : Cond.classLink RX10 23 RX0 ∈ TBL := TBL_of 256 (by decide +kernel) (by decide +kernel)
theorem kl_X10_25 : Cond.methodLink RX10 25 yX0_init ∈ TBL := TBL_at1 118 rfl rfl
theorem kcl_X10_33 : Cond.classLink RX10 33 RX5 ∈ TBL := TBL_of 361 (by decide +kernel) (by decide +kernel)
theorem kcl_X10_43 : Cond.classLink RX10 43 RX1 ∈ TBL := TBL_of 410 (by decide +kernel) (by decide +kernel)
theorem kin_X1 : Cond.instantiable RX1 4 ∈ TBL := TBL_of 411 (by decide +kernel) (by decide +kernel)
theorem df_X1 : ∀ j, j < 4 → defaultValue (tyX1 j) = vp_V [.null, .null, .int 0, .int 0] j := by decide +kernel
theorem kc_X1_init : Cond.code yX1_init cX1_init 3 none ∈ TBL := TBL_at2 34 rfl rfl
theorem kT_X1_init : gT yX1_init cX1_init 3 none 2 := ⟨ki_X1, kc_X1_init, by decide +kernel, by decide +kernel⟩
theorem kim_X1_init : Cond.instanceMethod yX1_init ∈ TBL := TBL_at2 33 rfl rfl
theorem kl_X10_45 : Cond.methodLink RX10 45 yX1_init ∈ TBL := TBL_at2 32 rfl rfl
theorem kcl_X10_52 : Cond.classLink RX10 52 RX6 ∈ TBL := TBL_of 429 (by decide +kernel) (by decide +kernel)
theorem kin_X6 : Cond.instantiable RX6 5 ∈ TBL := TBL_of 430 (by decide +kernel) (by decide +kernel)
theorem df_X6 : ∀ j, j < 5 → defaultValue (tyX6 j) = vp_V [.null, .null, .null, .null, .int 0] j := by decide +kernel
theorem kc_X6_init : Cond.code yX6_init cX6_init 4 none ∈ TBL := TBL_at2 53 rfl rfl
theorem kT_X6_init : gT yX6_init cX6_init 4 none 3 := ⟨ki_X6, kc_X6_init, by decide +kernel, by decide +kernel⟩
theorem kim_X6_init : Cond.instanceMethod yX6_init ∈ TBL := TBL_at2 52 rfl rfl
theorem kl_X10_54 : Cond.methodLink RX10 54 yX6_init ∈ TBL := TBL_at2 51 rfl rfl
theorem kcl_X10_61 : Cond.classLink RX10 61 RX4 ∈ TBL := TBL_of 451 (by decide +kernel) (by decide +kernel)
theorem kcl_X10_67 : Cond.classLink RX10 67 RX3 ∈ TBL := TBL_of 453 (by decide +kernel) (by decide +kernel)
theorem kin_X3 : Cond.instantiable RX3 10 ∈ TBL := TBL_of 454 (by decide +kernel) (by decide +kernel)
theorem df_X3 : ∀ j, j < 10 → defaultValue (tyX3 j) = vp_V [.int 0, .int 0, .int 0, .int 0, .int 0, .int 0, .int 0, .int 0, .null, .null] j := by decide +kernel
theorem kc_X3_init : Cond.code yX3_init cX3_init 1 none ∈ TBL := TBL_at2 77 rfl rfl
theorem kT_X3_init : gT yX3_init cX3_init 1 none 0 := ⟨ki_X3, kc_X3_init, by decide +kernel, by decide +kernel⟩
theorem kim_X3_init : Cond.instanceMethod yX3_init ∈ TBL := TBL_at2 76 rfl rfl
theorem kcl_X10_77 : Cond.classLink RX10 77 RX7 ∈ TBL := TBL_of 496 (by decide +kernel) (by decide +kernel)
theorem kin_X7 : Cond.instantiable RX7 1 ∈ TBL := TBL_of 497 (by decide +kernel) (by decide +kernel)
theorem df_X7 : ∀ j, j < 1 → defaultValue (tyX7 j) = vp_V [.null] j := by decide +kernel
theorem kc_X7_init : Cond.code yX7_init cX7_init 1 none ∈ TBL := TBL_at2 120 rfl rfl
theorem kT_X7_init : gT yX7_init cX7_init 1 none 0 := ⟨ki_X7, kc_X7_init, by decide +kernel, by decide +kernel⟩
theorem kim_X7_init : Cond.instanceMethod yX7_init ∈ TBL := TBL_at2 119 rfl rfl
theorem kcl_X10_84 : Cond.classLink RX10 84 RX2 ∈ TBL := TBL_of 506 (by decide +kernel) (by decide +kernel)
theorem kin_X2 : Cond.instantiable RX2 5 ∈ TBL := TBL_of 507 (by decide +kernel) (by decide +kernel)
theorem df_X2 : ∀ j, j < 5 → defaultValue (tyX2 j) = vp_V [.int 0, .int 0, .null, .null, .null] j := by decide +kernel
theorem kc_X2_init : Cond.code yX2_init cX2_init 1 none ∈ TBL := TBL_at2 130 rfl rfl
theorem kT_X2_init : gT yX2_init cX2_init 1 none 0 := ⟨ki_X2, kc_X2_init, by decide +kernel, by decide +kernel⟩
theorem kim_X2_init : Cond.instanceMethod yX2_init ∈ TBL := TBL_at2 129 rfl rfl
theorem kin_X4 : Cond.instantiable RX4 2 ∈ TBL := TBL_of 530 (by decide +kernel) (by decide +kernel)
theorem df_X4 : ∀ j, j < 2 → defaultValue (tyX4 j) = vp_V [.null, .null] j := by decide +kernel
theorem kc_X4_init : Cond.code yX4_init cX4_init 1 none ∈ TBL := TBL_at2 153 rfl rfl
theorem kT_X4_init : gT yX4_init cX4_init 1 none 0 := ⟨ki_X4, kc_X4_init, by decide +kernel, by decide +kernel⟩
theorem kim_X4_init : Cond.instanceMethod yX4_init ∈ TBL := TBL_at2 152 rfl rfl
theorem kl_X11_1 : Cond.methodLink RX11 1 Lib.objectInit ∈ TBL := TBL_at6 156 rfl rfl
theorem kac_arr2 : Cond.arrayClass .boolean ∈ TBL := TBL_of 1622 (by decide +kernel) (by decide +kernel)
def PC_X0_init (cA adS : Nat → Nat) (h0 : Nat) : va_W → Prop := fun w1 => ∃ q1 q2 q3 q4 q5 q6 q7 q8 q9 q10 q11 q12 : Nat, w1 = [(h0, .inr (0, [.int 4, .int 100, .int 0, .int 0, .int 0, .int 0, .int 0, .ref q1, .ref q2, .ref q3, .ref q4, .ref q5, .ref q6, .ref q7, .ref q8, .ref q9, .ref q10, .ref q11, .ref q12])), (q1, .inl (cA 0, 7, .inl (fun _ => 0))), (q2, .inl (cA 0, 5, .inl (fun _ => 0))), (q3, .inl (cA 0, 5, .inl (fun _ => 0))), (q4, .inl (cA 3, 6, .inr (.inl (fun _ => 0)))), (q5, .inl (cA 0, 6, .inl (fun _ => 0))), (q6, .inl (cA 0, 6, .inl (fun _ => 0))), (q7, .inl (cA 0, 6, .inl (fun _ => 0))), (q8, .inl (cA 0, 6, .inl (fun _ => 0))), (q9, .inl (cA 0, 6, .inl (fun _ => 0))), (q10, .inl (cA 0, 6, .inl (fun _ => 0))), (q11, .inl (cA 0, 8, .inl (fun _ => 0))), (q12, .inl (cA 0, 8, .inl (fun _ => 0)))]
def tb_X0_init : List (Nat × Jvm.ClassFile.Instr × Nat) := [(0, .aload_n 0, 1), (1, .invokespecial 3, 3), (4, .aload_n 0, 1), (5, .bipush 7, 2), (7, .newarray .int, 2), (9, .putfield 9, 3), (12, .aload_n 0, 1), (13, .iconst 5, 1), (14, .newarray .int, 2), (16, .putfield 15, 3), (19, .aload_n 0, 1), (20, .iconst 5, 1), (21, .newarray .int, 2), (23, .putfield 18, 3), (26, .aload_n 0, 1), (27, .bipush 6, 2), (29, .newarray .long, 2), (31, .putfield 21, 3), (34, .aload_n 0, 1), (35, .bipush 6, 2), (37, .newarray .int, 2), (39, .putfield 25, 3), (42, .aload_n 0, 1), (43, .bipush 6, 2), (45, .newarray .int, 2), (47, .putfield 28, 3), (50, .aload_n 0, 1), (51, .bipush 6, 2), (53, .newarray .int, 2), (55, .putfield 31, 3), (58, .aload_n 0, 1), (59, .bipush 6, 2), (61, .newarray .int, 2), (63, .putfield 34, 3), (66, .aload_n 0, 1), (67, .bipush 6, 2), (69, .newarray .int, 2), (71, .putfield 37, 3), (74, .aload_n 0, 1), (75, .bipush 6, 2), (77, .newarray .int, 2), (79, .putfield 40, 3), (82, .aload_n 0, 1), (83, .bipush 8, 2), (85, .newarray .int, 2), (87, .putfield 43, 3), (90, .aload_n 0, 1), (91, .bipush 8, 2), (93, .newarray .int, 2), (95, .putfield 46, 3), (98, .aload_n 0, 1), (99, .invokevirtual 49, 3), (102, .return_, 1)]
set_option maxRecDepth 100000 in
theorem dt_X0_init : ∀ q ∈ tb_X0_init, decode cX0_init q.1 = .ok q.2 := by decide +kernel
set_option maxHeartbeats 8000000 in
set_option maxRecDepth 100000 in
theorem cc_X0_init (l : Launch) (D : va_G) (cA adS : Nat → Nat) (h0 : Nat) : cMet l yX0_init cX0_init 1 2 140 12 75 D cA adS h0 [] (.inr (0, [.int 0, .int 0, .int 0, .int 0, .int 0, .int 0, .int 0, .null, .null, .null, .null, .null, .null, .null, .null, .null, .null, .null, .null])) (PC_X0_init cA adS h0) := by
  refine c_entry (by decide) rfl (Nat.le_of_ble_eq_true rfl) ?_
  intro p e s m args below meth c sz C hr hlk hin
  show cW p l e { frames := 2, cells := 12, slots := 75, locals := 140 } s m args below meth c D (va_A [(h0, (.inr (0, [.int 0, .int 0, .int 0, .int 0, .int 0, .int 0, .int 0, .null, .null, .null, .null, .null, .null, .null, .null, .null, .null, .null, .null])))] sz) 1 0 0 (MQ below (cPost D (va_A [(h0, (.inr (0, [.int 0, .int 0, .int 0, .int 0, .int 0, .int 0, .int 0, .null, .null, .null, .null, .null, .null, .null, .null, .null, .null, .null, .null])))] sz) (PC_X0_init cA adS h0)) args s 12 75 (va_A [(h0, (.inr (0, [.int 0, .int 0, .int 0, .int 0, .int 0, .int 0, .int 0, .null, .null, .null, .null, .null, .null, .null, .null, .null, .null, .null, .null])))] sz)) 0 [(0, .ref h0)] [] [(h0, (.inr (0, [.int 0, .int 0, .int 0, .int 0, .int 0, .int 0, .int 0, .null, .null, .null, .null, .null, .null, .null, .null, .null, .null, .null, .null])))]
  refine cn_aload_n C (gdec dt_X0_init 0 rfl) (i := 0) rfl rfl ?_
  refine cn_obj C kl_X0_3 kim_obj kc_obj (gdec dt_X0_init 1 rfl) (Nat.le_of_ble_eq_true rfl) ⟨by decide, by decide⟩ ?_
  refine cn_aload_n C (gdec dt_X0_init 2 rfl) (i := 0) rfl rfl ?_
  refine cn_bipush C (gdec dt_X0_init 3 rfl) (v := 7) (by decide) ?_
  refine cn_newa (t := 0) (N := 7) (a0 := (7, .inl (fun _ => 0))) C .int rfl rfl (fun _ => Iff.rfl) kac_arr0 (fun _ => rfl) (by decide) (by decide) (by decide) ⟨by decide, by decide⟩ (gdec dt_X0_init 4 rfl) (fun q1 => ?_)
  refine cn_ws (ws2 := [(h0, .inr (0, [.int 0, .int 0, .int 0, .int 0, .int 0, .int 0, .int 0, .null, .null, .null, .null, .null, .null, .null, .null, .null, .null, .null, .null])), (q1, .inl (cA 0, 7, .inl (fun _ => 0)))]) rfl ?_
  refine cn_putF C hin kf_X0_9 (fun _ _ _ h => by cases h; rfl) (q0 := 0) rfl rfl rfl (Nat.le_of_ble_eq_true rfl) (ws2 := [(h0, .inr (0, [.int 0, .int 0, .int 0, .int 0, .int 0, .int 0, .int 0, .ref q1, .null, .null, .null, .null, .null, .null, .null, .null, .null, .null, .null])), (q1, .inl (cA 0, 7, .inl (fun _ => 0)))]) rfl (gdec dt_X0_init 5 rfl) ?_
  refine cn_aload_n C (gdec dt_X0_init 6 rfl) (i := 0) rfl rfl ?_
  refine cn_iconst C (gdec dt_X0_init 7 rfl) (v := 5) (by decide) ?_
  refine cn_newa (t := 0) (N := 5) (a0 := (5, .inl (fun _ => 0))) C .int rfl rfl (fun _ => Iff.rfl) kac_arr0 (fun _ => rfl) (by decide) (by decide) (by decide) ⟨by decide, by decide⟩ (gdec dt_X0_init 8 rfl) (fun q2 => ?_)
  refine cn_ws (ws2 := [(h0, .inr (0, [.int 0, .int 0, .int 0, .int 0, .int 0, .int 0, .int 0, .ref q1, .null, .null, .null, .null, .null, .null, .null, .null, .null, .null, .null])), (q1, .inl (cA 0, 7, .inl (fun _ => 0))), (q2, .inl (cA 0, 5, .inl (fun _ => 0)))]) rfl ?_
  refine cn_putF C hin kf_X0_15 (fun _ _ _ h => by cases h; rfl) (q0 := 0) rfl rfl rfl (Nat.le_of_ble_eq_true rfl) (ws2 := [(h0, .inr (0, [.int 0, .int 0, .int 0, .int 0, .int 0, .int 0, .int 0, .ref q1, .ref q2, .null, .null, .null, .null, .null, .null, .null, .null, .null, .null])), (q1, .inl (cA 0, 7, .inl (fun _ => 0))), (q2, .inl (cA 0, 5, .inl (fun _ => 0)))]) rfl (gdec dt_X0_init 9 rfl) ?_
  refine cn_aload_n C (gdec dt_X0_init 10 rfl) (i := 0) rfl rfl ?_
  refine cn_iconst C (gdec dt_X0_init 11 rfl) (v := 5) (by decide) ?_
  refine cn_newa (t := 0) (N := 5) (a0 := (5, .inl (fun _ => 0))) C .int rfl rfl (fun _ => Iff.rfl) kac_arr0 (fun _ => rfl) (by decide) (by decide) (by decide) ⟨by decide, by decide⟩ (gdec dt_X0_init 12 rfl) (fun q3 => ?_)
  refine cn_ws (ws2 := [(h0, .inr (0, [.int 0, .int 0, .int 0, .int 0, .int 0, .int 0, .int 0, .ref q1, .ref q2, .null, .null, .null, .null, .null, .null, .null, .null, .null, .null])), (q1, .inl (cA 0, 7, .inl (fun _ => 0))), (q2, .inl (cA 0, 5, .inl (fun _ => 0))), (q3, .inl (cA 0, 5, .inl (fun _ => 0)))]) rfl ?_
  refine cn_putF C hin kf_X0_18 (fun _ _ _ h => by cases h; rfl) (q0 := 0) rfl rfl rfl (Nat.le_of_ble_eq_true rfl) (ws2 := [(h0, .inr (0, [.int 0, .int 0, .int 0, .int 0, .int 0, .int 0, .int 0, .ref q1, .ref q2, .ref q3, .null, .null, .null, .null, .null, .null, .null, .null, .null])), (q1, .inl (cA 0, 7, .inl (fun _ => 0))), (q2, .inl (cA 0, 5, .inl (fun _ => 0))), (q3, .inl (cA 0, 5, .inl (fun _ => 0)))]) rfl (gdec dt_X0_init 13 rfl) ?_
  refine cn_aload_n C (gdec dt_X0_init 14 rfl) (i := 0) rfl rfl ?_
  refine cn_bipush C (gdec dt_X0_init 15 rfl) (v := 6) (by decide) ?_
  refine cn_newa (t := 3) (N := 6) (a0 := (6, .inr (.inl (fun _ => 0)))) C .long rfl rfl (fun _ => Iff.rfl) kac_arr3 (fun _ => rfl) (by decide) (by decide) (by decide) ⟨by decide, by decide⟩ (gdec dt_X0_init 16 rfl) (fun q4 => ?_)
  refine cn_ws (ws2 := [(h0, .inr (0, [.int 0, .int 0, .int 0, .int 0, .int 0, .int 0, .int 0, .ref q1, .ref q2, .ref q3, .null, .null, .null, .null, .null, .null, .null, .null, .null])), (q1, .inl (cA 0, 7, .inl (fun _ => 0))), (q2, .inl (cA 0, 5, .inl (fun _ => 0))), (q3, .inl (cA 0, 5, .inl (fun _ => 0))), (q4, .inl (cA 3, 6, .inr (.inl (fun _ => 0))))]) rfl ?_
  refine cn_putF C hin kf_X0_21 (fun _ _ _ h => by cases h; rfl) (q0 := 0) rfl rfl rfl (Nat.le_of_ble_eq_true rfl) (ws2 := [(h0, .inr (0, [.int 0, .int 0, .int 0, .int 0, .int 0, .int 0, .int 0, .ref q1, .ref q2, .ref q3, .ref q4, .null, .null, .null, .null, .null, .null, .null, .null])), (q1, .inl (cA 0, 7, .inl (fun _ => 0))), (q2, .inl (cA 0, 5, .inl (fun _ => 0))), (q3, .inl (cA 0, 5, .inl (fun _ => 0))), (q4, .inl (cA 3, 6, .inr (.inl (fun _ => 0))))]) rfl (gdec dt_X0_init 17 rfl) ?_
  refine cn_aload_n C (gdec dt_X0_init 18 rfl) (i := 0) rfl rfl ?_
  refine cn_bipush C (gdec dt_X0_init 19 rfl) (v := 6) (by decide) ?_
  refine cn_newa (t := 0) (N := 6) (a0 := (6, .inl (fun _ => 0))) C .int rfl rfl (fun _ => Iff.rfl) kac_arr0 (fun _ => rfl) (by decide) (by decide) (by decide) ⟨by decide, by decide⟩ (gdec dt_X0_init 20 rfl) (fun q5 => ?_)
  refine cn_ws (ws2 := [(h0, .inr (0, [.int 0, .int 0, .int 0, .int 0, .int 0, .int 0, .int 0, .ref q1, .ref q2, .ref q3, .ref q4, .null, .null, .null, .null, .null, .null, .null, .null])), (q1, .inl (cA 0, 7, .inl (fun _ => 0))), (q2, .inl (cA 0, 5, .inl (fun _ => 0))), (q3, .inl (cA 0, 5, .inl (fun _ => 0))), (q4, .inl (cA 3, 6, .inr (.inl (fun _ => 0)))), (q5, .inl (cA 0, 6, .inl (fun _ => 0)))]) rfl ?_
  refine cn_putF C hin kf_X0_25 (fun _ _ _ h => by cases h; rfl) (q0 := 0) rfl rfl rfl (Nat.le_of_ble_eq_true rfl) (ws2 := [(h0, .inr (0, [.int 0, .int 0, .int 0, .int 0, .int 0, .int 0, .int 0, .ref q1, .ref q2, .ref q3, .ref q4, .ref q5, .null, .null, .null, .null, .null, .null, .null])), (q1, .inl (cA 0, 7, .inl (fun _ => 0))), (q2, .inl (cA 0, 5, .inl (fun _ => 0))), (q3, .inl (cA 0, 5, .inl (fun _ => 0))), (q4, .inl (cA 3, 6, .inr (.inl (fun _ => 0)))), (q5, .inl (cA 0, 6, .inl (fun _ => 0)))]) rfl (gdec dt_X0_init 21 rfl) ?_
  refine cn_aload_n C (gdec dt_X0_init 22 rfl) (i := 0) rfl rfl ?_
  refine cn_bipush C (gdec dt_X0_init 23 rfl) (v := 6) (by decide) ?_
  refine cn_newa (t := 0) (N := 6) (a0 := (6, .inl (fun _ => 0))) C .int rfl rfl (fun _ => Iff.rfl) kac_arr0 (fun _ => rfl) (by decide) (by decide) (by decide) ⟨by decide, by decide⟩ (gdec dt_X0_init 24 rfl) (fun q6 => ?_)
  refine cn_ws (ws2 := [(h0, .inr (0, [.int 0, .int 0, .int 0, .int 0, .int 0, .int 0, .int 0, .ref q1, .ref q2, .ref q3, .ref q4, .ref q5, .null, .null, .null, .null, .null, .null, .null])), (q1, .inl (cA 0, 7, .inl (fun _ => 0))), (q2, .inl (cA 0, 5, .inl (fun _ => 0))), (q3, .inl (cA 0, 5, .inl (fun _ => 0))), (q4, .inl (cA 3, 6, .inr (.inl (fun _ => 0)))), (q5, .inl (cA 0, 6, .inl (fun _ => 0))), (q6, .inl (cA 0, 6, .inl (fun _ => 0)))]) rfl ?_
  refine cn_putF C hin kf_X0_28 (fun _ _ _ h => by cases h; rfl) (q0 := 0) rfl rfl rfl (Nat.le_of_ble_eq_true rfl) (ws2 := [(h0, .inr (0, [.int 0, .int 0, .int 0, .int 0, .int 0, .int 0, .int 0, .ref q1, .ref q2, .ref q3, .ref q4, .ref q5, .ref q6, .null, .null, .null, .null, .null, .null])), (q1, .inl (cA 0, 7, .inl (fun _ => 0))), (q2, .inl (cA 0, 5, .inl (fun _ => 0))), (q3, .inl (cA 0, 5, .inl (fun _ => 0))), (q4, .inl (cA 3, 6, .inr (.inl (fun _ => 0)))), (q5, .inl (cA 0, 6, .inl (fun _ => 0))), (q6, .inl (cA 0, 6, .inl (fun _ => 0)))]) rfl (gdec dt_X0_init 25 rfl) ?_
  refine cn_aload_n C (gdec dt_X0_init 26 rfl) (i := 0) rfl rfl ?_
  refine cn_bipush C (gdec dt_X0_init 27 rfl) (v := 6) (by decide) ?_
  refine cn_newa (t := 0) (N := 6) (a0 := (6, .inl (fun _ => 0))) C .int rfl rfl (fun _ => Iff.rfl) kac_arr0 (fun _ => rfl) (by decide) (by decide) (by decide) ⟨by decide, by decide⟩ (gdec dt_X0_init 28 rfl) (fun q7 => ?_)
  refine cn_ws (ws2 := [(h0, .inr (0, [.int 0, .int 0, .int 0, .int 0, .int 0, .int 0, .int 0, .ref q1, .ref q2, .ref q3, .ref q4, .ref q5, .ref q6, .null, .null, .null, .null, .null, .null])), (q1, .inl (cA 0, 7, .inl (fun _ => 0))), (q2, .inl (cA 0, 5, .inl (fun _ => 0))), (q3, .inl (cA 0, 5, .inl (fun _ => 0))), (q4, .inl (cA 3, 6, .inr (.inl (fun _ => 0)))), (q5, .inl (cA 0, 6, .inl (fun _ => 0))), (q6, .inl (cA 0, 6, .inl (fun _ => 0))), (q7, .inl (cA 0, 6, .inl (fun _ => 0)))]) rfl ?_
  refine cn_putF C hin kf_X0_31 (fun _ _ _ h => by cases h; rfl) (q0 := 0) rfl rfl rfl (Nat.le_of_ble_eq_true rfl) (ws2 := [(h0, .inr (0, [.int 0, .int 0, .int 0, .int 0, .int 0, .int 0, .int 0, .ref q1, .ref q2, .ref q3, .ref q4, .ref q5, .ref q6, .ref q7, .null, .null, .null, .null, .null])), (q1, .inl (cA 0, 7, .inl (fun _ => 0))), (q2, .inl (cA 0, 5, .inl (fun _ => 0))), (q3, .inl (cA 0, 5, .inl (fun _ => 0))), (q4, .inl (cA 3, 6, .inr (.inl (fun _ => 0)))), (q5, .inl (cA 0, 6, .inl (fun _ => 0))), (q6, .inl (cA 0, 6, .inl (fun _ => 0))), (q7, .inl (cA 0, 6, .inl (fun _ => 0)))]) rfl (gdec dt_X0_init 29 rfl) ?_
  refine cn_aload_n C (gdec dt_X0_init 30 rfl) (i := 0) rfl rfl ?_
  refine cn_bipush C (gdec dt_X0_init 31 rfl) (v := 6) (by decide) ?_
  refine cn_newa (t := 0) (N := 6) (a0 := (6, .inl (fun _ => 0))) C .int rfl rfl (fun _ => Iff.rfl) kac_arr0 (fun _ => rfl) (by decide) (by decide) (by decide) ⟨by decide, by decide⟩ (gdec dt_X0_init 32 rfl) (fun q8 => ?_)
  refine cn_ws (ws2 := [(h0, .inr (0, [.int 0, .int 0, .int 0, .int 0, .int 0, .int 0, .int 0, .ref q1, .ref q2, .ref q3, .ref q4, .ref q5, .ref q6, .ref q7, .null, .null, .null, .null, .null])), (q1, .inl (cA 0, 7, .inl (fun _ => 0))), (q2, .inl (cA 0, 5, .inl (fun _ => 0))), (q3, .inl (cA 0, 5, .inl (fun _ => 0))), (q4, .inl (cA 3, 6, .inr (.inl (fun _ => 0)))), (q5, .inl (cA 0, 6, .inl (fun _ => 0))), (q6, .inl (cA 0, 6, .inl (fun _ => 0))), (q7, .inl (cA 0, 6, .inl (fun _ => 0))), (q8, .inl (cA 0, 6, .inl (fun _ => 0)))]) rfl ?_
  refine cn_putF C hin kf_X0_34 (fun _ _ _ h => by cases h; rfl) (q0 := 0) rfl rfl rfl (Nat.le_of_ble_eq_true rfl) (ws2 := [(h0, .inr (0, [.int 0, .int 0, .int 0, .int 0, .int 0, .int 0, .int 0, .ref q1, .ref q2, .ref q3, .ref q4, .ref q5, .ref q6, .ref q7, .ref q8, .null, .null, .null, .null])), (q1, .inl (cA 0, 7, .inl (fun _ => 0))), (q2, .inl (cA 0, 5, .inl (fun _ => 0))), (q3, .inl (cA 0, 5, .inl (fun _ => 0))), (q4, .inl (cA 3, 6, .inr (.inl (fun _ => 0)))), (q5, .inl (cA 0, 6, .inl (fun _ => 0))), (q6, .inl (cA 0, 6, .inl (fun _ => 0))), (q7, .inl (cA 0, 6, .inl (fun _ => 0))), (q8, .inl (cA 0, 6, .inl (fun _ => 0)))]) rfl (gdec dt_X0_init 33 rfl) ?_
  refine cn_aload_n C (gdec dt_X0_init 34 rfl) (i := 0) rfl rfl ?_
  refine cn_bipush C (gdec dt_X0_init 35 rfl) (v := 6) (by decide) ?_
  refine cn_newa (t := 0) (N := 6) (a0 := (6, .inl (fun _ => 0))) C .int rfl rfl (fun _ => Iff.rfl) kac_arr0 (fun _ => rfl) (by decide) (by decide) (by decide) ⟨by decide, by decide⟩ (gdec dt_X0_init 36 rfl) (fun q9 => ?_)
  refine cn_ws (ws2 := [(h0, .inr (0, [.int 0, .int 0, .int 0, .int 0, .int 0, .int 0, .int 0, .ref q1, .ref q2, .ref q3, .ref q4, .ref q5, .ref q6, .ref q7, .ref q8, .null, .null, .null, .null])), (q1, .inl (cA 0, 7, .inl (fun _ => 0))), (q2, .inl (cA 0, 5, .inl (fun _ => 0))), (q3, .inl (cA 0, 5, .inl (fun _ => 0))), (q4, .inl (cA 3, 6, .inr (.inl (fun _ => 0)))), (q5, .inl (cA 0, 6, .inl (fun _ => 0))), (q6, .inl (cA 0, 6, .inl (fun _ => 0))), (q7, .inl (cA 0, 6, .inl (fun _ => 0))), (q8, .inl (cA 0, 6, .inl (fun _ => 0))), (q9, .inl (cA 0, 6, .inl (fun _ => 0)))]) rfl ?_
  refine cn_putF C hin kf_X0_37 (fun _ _ _ h => by cases h; rfl) (q0 := 0) rfl rfl rfl (Nat.le_of_ble_eq_true rfl) (ws2 := [(h0, .inr (0, [.int 0, .int 0, .int 0, .int 0, .int 0, .int 0, .int 0, .ref q1, .ref q2, .ref q3, .ref q4, .ref q5, .ref q6, .ref q7, .ref q8, .ref q9, .null, .null, .null])), (q1, .inl (cA 0, 7, .inl (fun _ => 0))), (q2, .inl (cA 0, 5, .inl (fun _ => 0))), (q3, .inl (cA 0, 5, .inl (fun _ => 0))), (q4, .inl (cA 3, 6, .inr (.inl (fun _ => 0)))), (q5, .inl (cA 0, 6, .inl (fun _ => 0))), (q6, .inl (cA 0, 6, .inl (fun _ => 0))), (q7, .inl (cA 0, 6, .inl (fun _ => 0))), (q8, .inl (cA 0, 6, .inl (fun _ => 0))), (q9, .inl (cA 0, 6, .inl (fun _ => 0)))]) rfl (gdec dt_X0_init 37 rfl) ?_
  refine cn_aload_n C (gdec dt_X0_init 38 rfl) (i := 0) rfl rfl ?_
  refine cn_bipush C (gdec dt_X0_init 39 rfl) (v := 6) (by decide) ?_
  refine cn_newa (t := 0) (N := 6) (a0 := (6, .inl (fun _ => 0))) C .int rfl rfl (fun _ => Iff.rfl) kac_arr0 (fun _ => rfl) (by decide) (by decide) (by decide) ⟨by decide, by decide⟩ (gdec dt_X0_init 40 rfl) (fun q10 => ?_)
  refine cn_ws (ws2 := [(h0, .inr (0, [.int 0, .int 0, .int 0, .int 0, .int 0, .int 0, .int 0, .ref q1, .ref q2, .ref q3, .ref q4, .ref q5, .ref q6, .ref q7, .ref q8, .ref q9, .null, .null, .null])), (q1, .inl (cA 0, 7, .inl (fun _ => 0))), (q2, .inl (cA 0, 5, .inl (fun _ => 0))), (q3, .inl (cA 0, 5, .inl (fun _ => 0))), (q4, .inl (cA 3, 6, .inr (.inl (fun _ => 0)))), (q5, .inl (cA 0, 6, .inl (fun _ => 0))), (q6, .inl (cA 0, 6, .inl (fun _ => 0))), (q7, .inl (cA 0, 6, .inl (fun _ => 0))), (q8, .inl (cA 0, 6, .inl (fun _ => 0))), (q9, .inl (cA 0, 6, .inl (fun _ => 0))), (q10, .inl (cA 0, 6, .inl (fun _ => 0)))]) rfl ?_
  refine cn_putF C hin kf_X0_40 (fun _ _ _ h => by cases h; rfl) (q0 := 0) rfl rfl rfl (Nat.le_of_ble_eq_true rfl) (ws2 := [(h0, .inr (0, [.int 0, .int 0, .int 0, .int 0, .int 0, .int 0, .int 0, .ref q1, .ref q2, .ref q3, .ref q4, .ref q5, .ref q6, .ref q7, .ref q8, .ref q9, .ref q10, .null, .null])), (q1, .inl (cA 0, 7, .inl (fun _ => 0))), (q2, .inl (cA 0, 5, .inl (fun _ => 0))), (q3, .inl (cA 0, 5, .inl (fun _ => 0))), (q4, .inl (cA 3, 6, .inr (.inl (fun _ => 0)))), (q5, .inl (cA 0, 6, .inl (fun _ => 0))), (q6, .inl (cA 0, 6, .inl (fun _ => 0))), (q7, .inl (cA 0, 6, .inl (fun _ => 0))), (q8, .inl (cA 0, 6, .inl (fun _ => 0))), (q9, .inl (cA 0, 6, .inl (fun _ => 0))), (q10, .inl (cA 0, 6, .inl (fun _ => 0)))]) rfl (gdec dt_X0_init 41 rfl) ?_
  refine cn_aload_n C (gdec dt_X0_init 42 rfl) (i := 0) rfl rfl ?_
  refine cn_bipush C (gdec dt_X0_init 43 rfl) (v := 8) (by decide) ?_
  refine cn_newa (t := 0) (N := 8) (a0 := (8, .inl (fun _ => 0))) C .int rfl rfl (fun _ => Iff.rfl) kac_arr0 (fun _ => rfl) (by decide) (by decide) (by decide) ⟨by decide, by decide⟩ (gdec dt_X0_init 44 rfl) (fun q11 => ?_)
  refine cn_ws (ws2 := [(h0, .inr (0, [.int 0, .int 0, .int 0, .int 0, .int 0, .int 0, .int 0, .ref q1, .ref q2, .ref q3, .ref q4, .ref q5, .ref q6, .ref q7, .ref q8, .ref q9, .ref q10, .null, .null])), (q1, .inl (cA 0, 7, .inl (fun _ => 0))), (q2, .inl (cA 0, 5, .inl (fun _ => 0))), (q3, .inl (cA 0, 5, .inl (fun _ => 0))), (q4, .inl (cA 3, 6, .inr (.inl (fun _ => 0)))), (q5, .inl (cA 0, 6, .inl (fun _ => 0))), (q6, .inl (cA 0, 6, .inl (fun _ => 0))), (q7, .inl (cA 0, 6, .inl (fun _ => 0))), (q8, .inl (cA 0, 6, .inl (fun _ => 0))), (q9, .inl (cA 0, 6, .inl (fun _ => 0))), (q10, .inl (cA 0, 6, .inl (fun _ => 0))), (q11, .inl (cA 0, 8, .inl (fun _ => 0)))]) rfl ?_
  refine cn_putF C hin kf_X0_43 (fun _ _ _ h => by cases h; rfl) (q0 := 0) rfl rfl rfl (Nat.le_of_ble_eq_true rfl) (ws2 := [(h0, .inr (0, [.int 0, .int 0, .int 0, .int 0, .int 0, .int 0, .int 0, .ref q1, .ref q2, .ref q3, .ref q4, .ref q5, .ref q6, .ref q7, .ref q8, .ref q9, .ref q10, .ref q11, .null])), (q1, .inl (cA 0, 7, .inl (fun _ => 0))), (q2, .inl (cA 0, 5, .inl (fun _ => 0))), (q3, .inl (cA 0, 5, .inl (fun _ => 0))), (q4, .inl (cA 3, 6, .inr (.inl (fun _ => 0)))), (q5, .inl (cA 0, 6, .inl (fun _ => 0))), (q6, .inl (cA 0, 6, .inl (fun _ => 0))), (q7, .inl (cA 0, 6, .inl (fun _ => 0))), (q8, .inl (cA 0, 6, .inl (fun _ => 0))), (q9, .inl (cA 0, 6, .inl (fun _ => 0))), (q10, .inl (cA 0, 6, .inl (fun _ => 0))), (q11, .inl (cA 0, 8, .inl (fun _ => 0)))]) rfl (gdec dt_X0_init 45 rfl) ?_
  refine cn_aload_n C (gdec dt_X0_init 46 rfl) (i := 0) rfl rfl ?_
  refine cn_bipush C (gdec dt_X0_init 47 rfl) (v := 8) (by decide) ?_
  refine cn_newa (t := 0) (N := 8) (a0 := (8, .inl (fun _ => 0))) C .int rfl rfl (fun _ => Iff.rfl) kac_arr0 (fun _ => rfl) (by decide) (by decide) (by decide) ⟨by decide, by decide⟩ (gdec dt_X0_init 48 rfl) (fun q12 => ?_)
  refine cn_ws (ws2 := [(h0, .inr (0, [.int 0, .int 0, .int 0, .int 0, .int 0, .int 0, .int 0, .ref q1, .ref q2, .ref q3, .ref q4, .ref q5, .ref q6, .ref q7, .ref q8, .ref q9, .ref q10, .ref q11, .null])), (q1, .inl (cA 0, 7, .inl (fun _ => 0))), (q2, .inl (cA 0, 5, .inl (fun _ => 0))), (q3, .inl (cA 0, 5, .inl (fun _ => 0))), (q4, .inl (cA 3, 6, .inr (.inl (fun _ => 0)))), (q5, .inl (cA 0, 6, .inl (fun _ => 0))), (q6, .inl (cA 0, 6, .inl (fun _ => 0))), (q7, .inl (cA 0, 6, .inl (fun _ => 0))), (q8, .inl (cA 0, 6, .inl (fun _ => 0))), (q9, .inl (cA 0, 6, .inl (fun _ => 0))), (q10, .inl (cA 0, 6, .inl (fun _ => 0))), (q11, .inl (cA 0, 8, .inl (fun _ => 0))), (q12, .inl (cA 0, 8, .inl (fun _ => 0)))]) rfl ?_
  refine cn_putF C hin kf_X0_46 (fun _ _ _ h => by cases h; rfl) (q0 := 0) rfl rfl rfl (Nat.le_of_ble_eq_true rfl) (ws2 := [(h0, .inr (0, [.int 0, .int 0, .int 0, .int 0, .int 0, .int 0, .int 0, .ref q1, .ref q2, .ref q3, .ref q4, .ref q5, .ref q6, .ref q7, .ref q8, .ref q9, .ref q10, .ref q11, .ref q12])), (q1, .inl (cA 0, 7, .inl (fun _ => 0))), (q2, .inl (cA 0, 5, .inl (fun _ => 0))), (q3, .inl (cA 0, 5, .inl (fun _ => 0))), (q4, .inl (cA 3, 6, .inr (.inl (fun _ => 0)))), (q5, .inl (cA 0, 6, .inl (fun _ => 0))), (q6, .inl (cA 0, 6, .inl (fun _ => 0))), (q7, .inl (cA 0, 6, .inl (fun _ => 0))), (q8, .inl (cA 0, 6, .inl (fun _ => 0))), (q9, .inl (cA 0, 6, .inl (fun _ => 0))), (q10, .inl (cA 0, 6, .inl (fun _ => 0))), (q11, .inl (cA 0, 8, .inl (fun _ => 0))), (q12, .inl (cA 0, 8, .inl (fun _ => 0)))]) rfl (gdec dt_X0_init 49 rfl) ?_
  refine cn_aload_n C (gdec dt_X0_init 50 rfl) (i := 0) rfl rfl ?_
  refine cn_invG [] [] [h0, q1, q2, q3, q4, q5, q6, q7, q8, q9, q10, q11, q12] shB w00 C rfl (Nat.le_of_ble_eq_true rfl) rfl (fun hin => c_X0_clear l D cA _ hin w00 _ rfl) kT_X0_clear kl_X0_49 kim_X0_clear kse_X0_clear rfl rfl rfl rfl rfl ⟨by decide, by decide⟩ ⟨by decide, by decide⟩ (Nat.le_of_ble_eq_true rfl) (gdec dt_X0_init 51 rfl) ?_
  refine cn_ws (ws2 := [(h0, .inr (0, [.int 4, .int 100, .int 0, .int 0, .int 0, .int 0, .int 0, .ref q1, .ref q2, .ref q3, .ref q4, .ref q5, .ref q6, .ref q7, .ref q8, .ref q9, .ref q10, .ref q11, .ref q12])), (q1, .inl (cA 0, 7, .inl (fun _ => 0))), (q2, .inl (cA 0, 5, .inl (fun _ => 0))), (q3, .inl (cA 0, 5, .inl (fun _ => 0))), (q4, .inl (cA 3, 6, .inr (.inl (fun _ => 0)))), (q5, .inl (cA 0, 6, .inl (fun _ => 0))), (q6, .inl (cA 0, 6, .inl (fun _ => 0))), (q7, .inl (cA 0, 6, .inl (fun _ => 0))), (q8, .inl (cA 0, 6, .inl (fun _ => 0))), (q9, .inl (cA 0, 6, .inl (fun _ => 0))), (q10, .inl (cA 0, 6, .inl (fun _ => 0))), (q11, .inl (cA 0, 8, .inl (fun _ => 0))), (q12, .inl (cA 0, 8, .inl (fun _ => 0)))]) rfl ?_
  exact cn_vret C hr hlk ⟨q1, q2, q3, q4, q5, q6, q7, q8, q9, q10, q11, q12, rfl⟩ (gdec dt_X0_init 52 rfl)
def PC_X5_init (cA adS : Nat → Nat) (h0 : Nat) : va_W → Prop := fun w1 => ∃ q1 q2 q3 q4 q5 q6 q7 : Nat, w1 = [(h0, .inr (5, [.int 0, .int 0, .ref q1, .ref q2, .ref q3, .ref q4, .ref q5, .ref q6, .ref q7])), (q1, .inl (cA 0, 30, .inl (fun _ => 0))), (q2, .inl (cA 0, 30, .inl (fun _ => 0))), (q3, .inl (cA 0, 30, .inl (fun _ => 0))), (q4, .inl (cA 0, 30, .inl (fun _ => 0))), (q5, .inl (cA 0, 30, .inl (fun _ => 0))), (q6, .inl (cA 0, 30, .inl (fun _ => 0))), (q7, .inl (cA 0, 30, .inl (fun _ => 0)))]
def tb_X5_init : List (Nat × Jvm.ClassFile.Instr × Nat) := [(0, .aload_n 0, 1), (1, .invokespecial 3, 3), (4, .aload_n 0, 1), (5, .bipush 30, 2), (7, .newarray .int, 2), (9, .putfield 9, 3), (12, .aload_n 0, 1), (13, .bipush 30, 2), (15, .newarray .int, 2), (17, .putfield 15, 3), (20, .aload_n 0, 1), (21, .bipush 30, 2), (23, .newarray .int, 2), (25, .putfield 18, 3), (28, .aload_n 0, 1), (29, .bipush 30, 2), (31, .newarray .int, 2), (33, .putfield 21, 3), (36, .aload_n 0, 1), (37, .bipush 30, 2), (39, .newarray .int, 2), (41, .putfield 24, 3), (44, .aload_n 0, 1), (45, .bipush 30, 2), (47, .newarray .int, 2), (49, .putfield 27, 3), (52, .aload_n 0, 1), (53, .bipush 30, 2), (55, .newarray .int, 2), (57, .putfield 30, 3), (60, .return_, 1)]
set_option maxRecDepth 100000 in
theorem dt_X5_init : ∀ q ∈ tb_X5_init, decode cX5_init q.1 = .ok q.2 := by decide +kernel
set_option maxHeartbeats 8000000 in
set_option maxRecDepth 100000 in
theorem cc_X5_init (l : Launch) (D : va_G) (cA adS : Nat → Nat) (h0 : Nat) : cMet l yX5_init cX5_init 1 1 120 7 210 D cA adS h0 [] (.inr (5, [.int 0, .int 0, .null, .null, .null, .null, .null, .null, .null])) (PC_X5_init cA adS h0) := by
  refine c_entry (by decide) rfl (Nat.le_of_ble_eq_true rfl) ?_
  intro p e s m args below meth c sz C hr hlk hin
  show cW p l e { frames := 1, cells := 7, slots := 210, locals := 120 } s m args below meth c D (va_A [(h0, (.inr (5, [.int 0, .int 0, .null, .null, .null, .null, .null, .null, .null])))] sz) 1 0 0 (MQ below (cPost D (va_A [(h0, (.inr (5, [.int 0, .int 0, .null, .null, .null, .null, .null, .null, .null])))] sz) (PC_X5_init cA adS h0)) args s 7 210 (va_A [(h0, (.inr (5, [.int 0, .int 0, .null, .null, .null, .null, .null, .null, .null])))] sz)) 0 [(0, .ref h0)] [] [(h0, (.inr (5, [.int 0, .int 0, .null, .null, .null, .null, .null, .null, .null])))]
  refine cn_aload_n C (gdec dt_X5_init 0 rfl) (i := 0) rfl rfl ?_
  refine cn_obj C kl_X5_3 kim_obj kc_obj (gdec dt_X5_init 1 rfl) (Nat.le_of_ble_eq_true rfl) ⟨by decide, by decide⟩ ?_
  refine cn_aload_n C (gdec dt_X5_init 2 rfl) (i := 0) rfl rfl ?_
  refine cn_bipush C (gdec dt_X5_init 3 rfl) (v := 30) (by decide) ?_
  refine cn_newa (t := 0) (N := 30) (a0 := (30, .inl (fun _ => 0))) C .int rfl rfl (fun _ => Iff.rfl) kac_arr0 (fun _ => rfl) (by decide) (by decide) (by decide) ⟨by decide, by decide⟩ (gdec dt_X5_init 4 rfl) (fun q1 => ?_)
  refine cn_ws (ws2 := [(h0, .inr (5, [.int 0, .int 0, .null, .null, .null, .null, .null, .null, .null])), (q1, .inl (cA 0, 30, .inl (fun _ => 0)))]) rfl ?_
  refine cn_putF C hin kf_X5_9 (fun _ _ _ h => by cases h; rfl) (q0 := 0) rfl rfl rfl (Nat.le_of_ble_eq_true rfl) (ws2 := [(h0, .inr (5, [.int 0, .int 0, .ref q1, .null, .null, .null, .null, .null, .null])), (q1, .inl (cA 0, 30, .inl (fun _ => 0)))]) rfl (gdec dt_X5_init 5 rfl) ?_
  refine cn_aload_n C (gdec dt_X5_init 6 rfl) (i := 0) rfl rfl ?_
  refine cn_bipush C (gdec dt_X5_init 7 rfl) (v := 30) (by decide) ?_
  refine cn_newa (t := 0) (N := 30) (a0 := (30, .inl (fun _ => 0))) C .int rfl rfl (fun _ => Iff.rfl) kac_arr0 (fun _ => rfl) (by decide) (by decide) (by decide) ⟨by decide, by decide⟩ (gdec dt_X5_init 8 rfl) (fun q2 => ?_)
  refine cn_ws (ws2 := [(h0, .inr (5, [.int 0, .int 0, .ref q1, .null, .null, .null, .null, .null, .null])), (q1, .inl (cA 0, 30, .inl (fun _ => 0))), (q2, .inl (cA 0, 30, .inl (fun _ => 0)))]) rfl ?_
  refine cn_putF C hin kf_X5_15 (fun _ _ _ h => by cases h; rfl) (q0 := 0) rfl rfl rfl (Nat.le_of_ble_eq_true rfl) (ws2 := [(h0, .inr (5, [.int 0, .int 0, .ref q1, .ref q2, .null, .null, .null, .null, .null])), (q1, .inl (cA 0, 30, .inl (fun _ => 0))), (q2, .inl (cA 0, 30, .inl (fun _ => 0)))]) rfl (gdec dt_X5_init 9 rfl) ?_
  refine cn_aload_n C (gdec dt_X5_init 10 rfl) (i := 0) rfl rfl ?_
  refine cn_bipush C (gdec dt_X5_init 11 rfl) (v := 30) (by decide) ?_
  refine cn_newa (t := 0) (N := 30) (a0 := (30, .inl (fun _ => 0))) C .int rfl rfl (fun _ => Iff.rfl) kac_arr0 (fun _ => rfl) (by decide) (by decide) (by decide) ⟨by decide, by decide⟩ (gdec dt_X5_init 12 rfl) (fun q3 => ?_)
  refine cn_ws (ws2 := [(h0, .inr (5, [.int 0, .int 0, .ref q1, .ref q2, .null, .null, .null, .null, .null])), (q1, .inl (cA 0, 30, .inl (fun _ => 0))), (q2, .inl (cA 0, 30, .inl (fun _ => 0))), (q3, .inl (cA 0, 30, .inl (fun _ => 0)))]) rfl ?_
  refine cn_putF C hin kf_X5_18 (fun _ _ _ h => by cases h; rfl) (q0 := 0) rfl rfl rfl (Nat.le_of_ble_eq_true rfl) (ws2 := [(h0, .inr (5, [.int 0, .int 0, .ref q1, .ref q2, .ref q3, .null, .null, .null, .null])), (q1, .inl (cA 0, 30, .inl (fun _ => 0))), (q2, .inl (cA 0, 30, .inl (fun _ => 0))), (q3, .inl (cA 0, 30, .inl (fun _ => 0)))]) rfl (gdec dt_X5_init 13 rfl) ?_
  refine cn_aload_n C (gdec dt_X5_init 14 rfl) (i := 0) rfl rfl ?_
  refine cn_bipush C (gdec dt_X5_init 15 rfl) (v := 30) (by decide) ?_
  refine cn_newa (t := 0) (N := 30) (a0 := (30, .inl (fun _ => 0))) C .int rfl rfl (fun _ => Iff.rfl) kac_arr0 (fun _ => rfl) (by decide) (by decide) (by decide) ⟨by decide, by decide⟩ (gdec dt_X5_init 16 rfl) (fun q4 => ?_)
  refine cn_ws (ws2 := [(h0, .inr (5, [.int 0, .int 0, .ref q1, .ref q2, .ref q3, .null, .null, .null, .null])), (q1, .inl (cA 0, 30, .inl (fun _ => 0))), (q2, .inl (cA 0, 30, .inl (fun _ => 0))), (q3, .inl (cA 0, 30, .inl (fun _ => 0))), (q4, .inl (cA 0, 30, .inl (fun _ => 0)))]) rfl ?_
  refine cn_putF C hin kf_X5_21 (fun _ _ _ h => by cases h; rfl) (q0 := 0) rfl rfl rfl (Nat.le_of_ble_eq_true rfl) (ws2 := [(h0, .inr (5, [.int 0, .int 0, .ref q1, .ref q2, .ref q3, .ref q4, .null, .null, .null])), (q1, .inl (cA 0, 30, .inl (fun _ => 0))), (q2, .inl (cA 0, 30, .inl (fun _ => 0))), (q3, .inl (cA 0, 30, .inl (fun _ => 0))), (q4, .inl (cA 0, 30, .inl (fun _ => 0)))]) rfl (gdec dt_X5_init 17 rfl) ?_
  refine cn_aload_n C (gdec dt_X5_init 18 rfl) (i := 0) rfl rfl ?_
  refine cn_bipush C (gdec dt_X5_init 19 rfl) (v := 30) (by decide) ?_
  refine cn_newa (t := 0) (N := 30) (a0 := (30, .inl (fun _ => 0))) C .int rfl rfl (fun _ => Iff.rfl) kac_arr0 (fun _ => rfl) (by decide) (by decide) (by decide) ⟨by decide, by decide⟩ (gdec dt_X5_init 20 rfl) (fun q5 => ?_)
  refine cn_ws (ws2 := [(h0, .inr (5, [.int 0, .int 0, .ref q1, .ref q2, .ref q3, .ref q4, .null, .null, .null])), (q1, .inl (cA 0, 30, .inl (fun _ => 0))), (q2, .inl (cA 0, 30, .inl (fun _ => 0))), (q3, .inl (cA 0, 30, .inl (fun _ => 0))), (q4, .inl (cA 0, 30, .inl (fun _ => 0))), (q5, .inl (cA 0, 30, .inl (fun _ => 0)))]) rfl ?_
  refine cn_putF C hin kf_X5_24 (fun _ _ _ h => by cases h; rfl) (q0 := 0) rfl rfl rfl (Nat.le_of_ble_eq_true rfl) (ws2 := [(h0, .inr (5, [.int 0, .int 0, .ref q1, .ref q2, .ref q3, .ref q4, .ref q5, .null, .null])), (q1, .inl (cA 0, 30, .inl (fun _ => 0))), (q2, .inl (cA 0, 30, .inl (fun _ => 0))), (q3, .inl (cA 0, 30, .inl (fun _ => 0))), (q4, .inl (cA 0, 30, .inl (fun _ => 0))), (q5, .inl (cA 0, 30, .inl (fun _ => 0)))]) rfl (gdec dt_X5_init 21 rfl) ?_
  refine cn_aload_n C (gdec dt_X5_init 22 rfl) (i := 0) rfl rfl ?_
  refine cn_bipush C (gdec dt_X5_init 23 rfl) (v := 30) (by decide) ?_
  refine cn_newa (t := 0) (N := 30) (a0 := (30, .inl (fun _ => 0))) C .int rfl rfl (fun _ => Iff.rfl) kac_arr0 (fun _ => rfl) (by decide) (by decide) (by decide) ⟨by decide, by decide⟩ (gdec dt_X5_init 24 rfl) (fun q6 => ?_)
  refine cn_ws (ws2 := [(h0, .inr (5, [.int 0, .int 0, .ref q1, .ref q2, .ref q3, .ref q4, .ref q5, .null, .null])), (q1, .inl (cA 0, 30, .inl (fun _ => 0))), (q2, .inl (cA 0, 30, .inl (fun _ => 0))), (q3, .inl (cA 0, 30, .inl (fun _ => 0))), (q4, .inl (cA 0, 30, .inl (fun _ => 0))), (q5, .inl (cA 0, 30, .inl (fun _ => 0))), (q6, .inl (cA 0, 30, .inl (fun _ => 0)))]) rfl ?_
  refine cn_putF C hin kf_X5_27 (fun _ _ _ h => by cases h; rfl) (q0 := 0) rfl rfl rfl (Nat.le_of_ble_eq_true rfl) (ws2 := [(h0, .inr (5, [.int 0, .int 0, .ref q1, .ref q2, .ref q3, .ref q4, .ref q5, .ref q6, .null])), (q1, .inl (cA 0, 30, .inl (fun _ => 0))), (q2, .inl (cA 0, 30, .inl (fun _ => 0))), (q3, .inl (cA 0, 30, .inl (fun _ => 0))), (q4, .inl (cA 0, 30, .inl (fun _ => 0))), (q5, .inl (cA 0, 30, .inl (fun _ => 0))), (q6, .inl (cA 0, 30, .inl (fun _ => 0)))]) rfl (gdec dt_X5_init 25 rfl) ?_
  refine cn_aload_n C (gdec dt_X5_init 26 rfl) (i := 0) rfl rfl ?_
  refine cn_bipush C (gdec dt_X5_init 27 rfl) (v := 30) (by decide) ?_
  refine cn_newa (t := 0) (N := 30) (a0 := (30, .inl (fun _ => 0))) C .int rfl rfl (fun _ => Iff.rfl) kac_arr0 (fun _ => rfl) (by decide) (by decide) (by decide) ⟨by decide, by decide⟩ (gdec dt_X5_init 28 rfl) (fun q7 => ?_)
  refine cn_ws (ws2 := [(h0, .inr (5, [.int 0, .int 0, .ref q1, .ref q2, .ref q3, .ref q4, .ref q5, .ref q6, .null])), (q1, .inl (cA 0, 30, .inl (fun _ => 0))), (q2, .inl (cA 0, 30, .inl (fun _ => 0))), (q3, .inl (cA 0, 30, .inl (fun _ => 0))), (q4, .inl (cA 0, 30, .inl (fun _ => 0))), (q5, .inl (cA 0, 30, .inl (fun _ => 0))), (q6, .inl (cA 0, 30, .inl (fun _ => 0))), (q7, .inl (cA 0, 30, .inl (fun _ => 0)))]) rfl ?_
  refine cn_putF C hin kf_X5_30 (fun _ _ _ h => by cases h; rfl) (q0 := 0) rfl rfl rfl (Nat.le_of_ble_eq_true rfl) (ws2 := [(h0, .inr (5, [.int 0, .int 0, .ref q1, .ref q2, .ref q3, .ref q4, .ref q5, .ref q6, .ref q7])), (q1, .inl (cA 0, 30, .inl (fun _ => 0))), (q2, .inl (cA 0, 30, .inl (fun _ => 0))), (q3, .inl (cA 0, 30, .inl (fun _ => 0))), (q4, .inl (cA 0, 30, .inl (fun _ => 0))), (q5, .inl (cA 0, 30, .inl (fun _ => 0))), (q6, .inl (cA 0, 30, .inl (fun _ => 0))), (q7, .inl (cA 0, 30, .inl (fun _ => 0)))]) rfl (gdec dt_X5_init 29 rfl) ?_
  exact cn_vret C hr hlk ⟨q1, q2, q3, q4, q5, q6, q7, rfl⟩ (gdec dt_X5_init 30 rfl)
def PC_X8_init (cA adS : Nat → Nat) (h0 : Nat) : va_W → Prop := fun w1 => ∃ q1 q2 q3 q4 : Nat, w1 = [(h0, .inr (8, [.int 0, .int 0, .int (-1), .long 0, .int (-1), .int (-1), .int 0, .int 0, .long 0, .int 0, .int 0, .int 0, .int 0, .ref q1, .ref q2, .ref q3, .ref q4])), (q1, .inl (cA 1, 900, .inl (fun _ => 0))), (q2, .inl (cA 0, 901, .inl (fun _ => 0))), (q3, .inl (cA 0, 901, .inl (fun _ => 0))), (q4, .inl (cA 3, 901, .inr (.inl (fun _ => 0))))]
def tb_X8_init : List (Nat × Jvm.ClassFile.Instr × Nat) := [(0, .aload_n 0, 1), (1, .invokespecial 3, 3), (4, .aload_n 0, 1), (5, .iconst 0, 1), (6, .putfield 9, 3), (9, .aload_n 0, 1), (10, .iconst 0, 1), (11, .putfield 15, 3), (14, .aload_n 0, 1), (15, .iconst (-1), 1), (16, .putfield 18, 3), (19, .aload_n 0, 1), (20, .lconst 0, 1), (21, .putfield 21, 3), (24, .aload_n 0, 1), (25, .iconst (-1), 1), (26, .putfield 25, 3), (29, .aload_n 0, 1), (30, .iconst (-1), 1), (31, .putfield 28, 3), (34, .aload_n 0, 1), (35, .iconst 0, 1), (36, .putfield 31, 3), (39, .aload_n 0, 1), (40, .iconst 0, 1), (41, .putfield 34, 3), (44, .aload_n 0, 1), (45, .lconst 0, 1), (46, .putfield 37, 3), (49, .aload_n 0, 1), (50, .iconst 0, 1), (51, .putfield 40, 3), (54, .aload_n 0, 1), (55, .iconst 0, 1), (56, .putfield 43, 3), (59, .aload_n 0, 1), (60, .iconst 0, 1), (61, .putfield 46, 3), (64, .aload_n 0, 1), (65, .iconst 0, 1), (66, .putfield 49, 3), (69, .aload_n 0, 1), (70, .sipush 900, 3), (73, .newarray .byte, 2), (75, .putfield 53, 3), (78, .aload_n 0, 1), (79, .sipush 901, 3), (82, .newarray .int, 2), (84, .putfield 57, 3), (87, .aload_n 0, 1), (88, .sipush 901, 3), (91, .newarray .int, 2), (93, .putfield 61, 3), (96, .aload_n 0, 1), (97, .sipush 901, 3), (100, .newarray .long, 2), (102, .putfield 64, 3), (105, .return_, 1)]
set_option maxRecDepth 100000 in
theorem dt_X8_init : ∀ q ∈ tb_X8_init, decode cX8_init q.1 = .ok q.2 := by decide +kernel
set_option maxHeartbeats 8000000 in
set_option maxRecDepth 100000 in
theorem cc_X8_init (l : Launch) (D : va_G) (cA adS : Nat → Nat) (h0 : Nat) : cMet l yX8_init cX8_init 1 1 120 4 3603 D cA adS h0 [] (.inr (8, [.int 0, .int 0, .int 0, .long 0, .int 0, .int 0, .int 0, .int 0, .long 0, .int 0, .int 0, .int 0, .int 0, .null, .null, .null, .null])) (PC_X8_init cA adS h0) := by
  refine c_entry (by decide) rfl (Nat.le_of_ble_eq_true rfl) ?_
  intro p e s m args below meth c sz C hr hlk hin
  show cW p l e { frames := 1, cells := 4, slots := 3603, locals := 120 } s m args below meth c D (va_A [(h0, (.inr (8, [.int 0, .int 0, .int 0, .long 0, .int 0, .int 0, .int 0, .int 0, .long 0, .int 0, .int 0, .int 0, .int 0, .null, .null, .null, .null])))] sz) 1 0 0 (MQ below (cPost D (va_A [(h0, (.inr (8, [.int 0, .int 0, .int 0, .long 0, .int 0, .int 0, .int 0, .int 0, .long 0, .int 0, .int 0, .int 0, .int 0, .null, .null, .null, .null])))] sz) (PC_X8_init cA adS h0)) args s 4 3603 (va_A [(h0, (.inr (8, [.int 0, .int 0, .int 0, .long 0, .int 0, .int 0, .int 0, .int 0, .long 0, .int 0, .int 0, .int 0, .int 0, .null, .null, .null, .null])))] sz)) 0 [(0, .ref h0)] [] [(h0, (.inr (8, [.int 0, .int 0, .int 0, .long 0, .int 0, .int 0, .int 0, .int 0, .long 0, .int 0, .int 0, .int 0, .int 0, .null, .null, .null, .null])))]
  refine cn_aload_n C (gdec dt_X8_init 0 rfl) (i := 0) rfl rfl ?_
  refine cn_obj C kl_X8_3 kim_obj kc_obj (gdec dt_X8_init 1 rfl) (Nat.le_of_ble_eq_true rfl) ⟨by decide, by decide⟩ ?_
  refine cn_aload_n C (gdec dt_X8_init 2 rfl) (i := 0) rfl rfl ?_
  refine cn_iconst C (gdec dt_X8_init 3 rfl) (v := 0) (by decide) ?_
  refine cn_put C kf_X8_9 (q0 := 0) rfl rfl rfl (Nat.le_of_ble_eq_true rfl) (ws2 := [(h0, .inr (8, [.int 0, .int 0, .int 0, .long 0, .int 0, .int 0, .int 0, .int 0, .long 0, .int 0, .int 0, .int 0, .int 0, .null, .null, .null, .null]))]) rfl (gdec dt_X8_init 4 rfl) ?_
  refine cn_aload_n C (gdec dt_X8_init 5 rfl) (i := 0) rfl rfl ?_
  refine cn_iconst C (gdec dt_X8_init 6 rfl) (v := 0) (by decide) ?_
  refine cn_put C kf_X8_15 (q0 := 0) rfl rfl rfl (Nat.le_of_ble_eq_true rfl) (ws2 := [(h0, .inr (8, [.int 0, .int 0, .int 0, .long 0, .int 0, .int 0, .int 0, .int 0, .long 0, .int 0, .int 0, .int 0, .int 0, .null, .null, .null, .null]))]) rfl (gdec dt_X8_init 7 rfl) ?_
  refine cn_aload_n C (gdec dt_X8_init 8 rfl) (i := 0) rfl rfl ?_
  refine cn_iconst C (gdec dt_X8_init 9 rfl) (v := -1) (by decide) ?_
  refine cn_put C kf_X8_18 (q0 := 0) rfl rfl rfl (Nat.le_of_ble_eq_true rfl) (ws2 := [(h0, .inr (8, [.int 0, .int 0, .int (-1), .long 0, .int 0, .int 0, .int 0, .int 0, .long 0, .int 0, .int 0, .int 0, .int 0, .null, .null, .null, .null]))]) rfl (gdec dt_X8_init 10 rfl) ?_
  refine cn_aload_n C (gdec dt_X8_init 11 rfl) (i := 0) rfl rfl ?_
  refine cn_lconst C (gdec dt_X8_init 12 rfl) (v := 0) (by decide) ?_
  refine cn_put C kf_X8_21 (q0 := 0) rfl rfl rfl (Nat.le_of_ble_eq_true rfl) (ws2 := [(h0, .inr (8, [.int 0, .int 0, .int (-1), .long 0, .int 0, .int 0, .int 0, .int 0, .long 0, .int 0, .int 0, .int 0, .int 0, .null, .null, .null, .null]))]) rfl (gdec dt_X8_init 13 rfl) ?_
  refine cn_aload_n C (gdec dt_X8_init 14 rfl) (i := 0) rfl rfl ?_
  refine cn_iconst C (gdec dt_X8_init 15 rfl) (v := -1) (by decide) ?_
  refine cn_put C kf_X8_25 (q0 := 0) rfl rfl rfl (Nat.le_of_ble_eq_true rfl) (ws2 := [(h0, .inr (8, [.int 0, .int 0, .int (-1), .long 0, .int (-1), .int 0, .int 0, .int 0, .long 0, .int 0, .int 0, .int 0, .int 0, .null, .null, .null, .null]))]) rfl (gdec dt_X8_init 16 rfl) ?_
  refine cn_aload_n C (gdec dt_X8_init 17 rfl) (i := 0) rfl rfl ?_
  refine cn_iconst C (gdec dt_X8_init 18 rfl) (v := -1) (by decide) ?_
  refine cn_put C kf_X8_28 (q0 := 0) rfl rfl rfl (Nat.le_of_ble_eq_true rfl) (ws2 := [(h0, .inr (8, [.int 0, .int 0, .int (-1), .long 0, .int (-1), .int (-1), .int 0, .int 0, .long 0, .int 0, .int 0, .int 0, .int 0, .null, .null, .null, .null]))]) rfl (gdec dt_X8_init 19 rfl) ?_
  refine cn_aload_n C (gdec dt_X8_init 20 rfl) (i := 0) rfl rfl ?_
  refine cn_iconst C (gdec dt_X8_init 21 rfl) (v := 0) (by decide) ?_
  refine cn_put C kf_X8_31 (q0 := 0) rfl rfl rfl (Nat.le_of_ble_eq_true rfl) (ws2 := [(h0, .inr (8, [.int 0, .int 0, .int (-1), .long 0, .int (-1), .int (-1), .int 0, .int 0, .long 0, .int 0, .int 0, .int 0, .int 0, .null, .null, .null, .null]))]) rfl (gdec dt_X8_init 22 rfl) ?_
  refine cn_aload_n C (gdec dt_X8_init 23 rfl) (i := 0) rfl rfl ?_
  refine cn_iconst C (gdec dt_X8_init 24 rfl) (v := 0) (by decide) ?_
  refine cn_put C kf_X8_34 (q0 := 0) rfl rfl rfl (Nat.le_of_ble_eq_true rfl) (ws2 := [(h0, .inr (8, [.int 0, .int 0, .int (-1), .long 0, .int (-1), .int (-1), .int 0, .int 0, .long 0, .int 0, .int 0, .int 0, .int 0, .null, .null, .null, .null]))]) rfl (gdec dt_X8_init 25 rfl) ?_
  refine cn_aload_n C (gdec dt_X8_init 26 rfl) (i := 0) rfl rfl ?_
  refine cn_lconst C (gdec dt_X8_init 27 rfl) (v := 0) (by decide) ?_
  refine cn_put C kf_X8_37 (q0 := 0) rfl rfl rfl (Nat.le_of_ble_eq_true rfl) (ws2 := [(h0, .inr (8, [.int 0, .int 0, .int (-1), .long 0, .int (-1), .int (-1), .int 0, .int 0, .long 0, .int 0, .int 0, .int 0, .int 0, .null, .null, .null, .null]))]) rfl (gdec dt_X8_init 28 rfl) ?_
  refine cn_aload_n C (gdec dt_X8_init 29 rfl) (i := 0) rfl rfl ?_
  refine cn_iconst C (gdec dt_X8_init 30 rfl) (v := 0) (by decide) ?_
  refine cn_put C kf_X8_40 (q0 := 0) rfl rfl rfl (Nat.le_of_ble_eq_true rfl) (ws2 := [(h0, .inr (8, [.int 0, .int 0, .int (-1), .long 0, .int (-1), .int (-1), .int 0, .int 0, .long 0, .int 0, .int 0, .int 0, .int 0, .null, .null, .null, .null]))]) rfl (gdec dt_X8_init 31 rfl) ?_
  refine cn_aload_n C (gdec dt_X8_init 32 rfl) (i := 0) rfl rfl ?_
  refine cn_iconst C (gdec dt_X8_init 33 rfl) (v := 0) (by decide) ?_
  refine cn_put C kf_X8_43 (q0 := 0) rfl rfl rfl (Nat.le_of_ble_eq_true rfl) (ws2 := [(h0, .inr (8, [.int 0, .int 0, .int (-1), .long 0, .int (-1), .int (-1), .int 0, .int 0, .long 0, .int 0, .int 0, .int 0, .int 0, .null, .null, .null, .null]))]) rfl (gdec dt_X8_init 34 rfl) ?_
  refine cn_aload_n C (gdec dt_X8_init 35 rfl) (i := 0) rfl rfl ?_
  refine cn_iconst C (gdec dt_X8_init 36 rfl) (v := 0) (by decide) ?_
  refine cn_put C kf_X8_46 (q0 := 0) rfl rfl rfl (Nat.le_of_ble_eq_true rfl) (ws2 := [(h0, .inr (8, [.int 0, .int 0, .int (-1), .long 0, .int (-1), .int (-1), .int 0, .int 0, .long 0, .int 0, .int 0, .int 0, .int 0, .null, .null, .null, .null]))]) rfl (gdec dt_X8_init 37 rfl) ?_
  refine cn_aload_n C (gdec dt_X8_init 38 rfl) (i := 0) rfl rfl ?_
  refine cn_iconst C (gdec dt_X8_init 39 rfl) (v := 0) (by decide) ?_
  refine cn_put C kf_X8_49 (q0 := 0) rfl rfl rfl (Nat.le_of_ble_eq_true rfl) (ws2 := [(h0, .inr (8, [.int 0, .int 0, .int (-1), .long 0, .int (-1), .int (-1), .int 0, .int 0, .long 0, .int 0, .int 0, .int 0, .int 0, .null, .null, .null, .null]))]) rfl (gdec dt_X8_init 40 rfl) ?_
  refine cn_aload_n C (gdec dt_X8_init 41 rfl) (i := 0) rfl rfl ?_
  refine cn_sipush C (gdec dt_X8_init 42 rfl) (v := 900) (by decide) ?_
  refine cn_newa (t := 1) (N := 900) (a0 := (900, .inl (fun _ => 0))) C .byte rfl rfl (fun _ => Iff.rfl) kac_arr1 (fun _ => rfl) (by decide) (by decide) (by decide) ⟨by decide, by decide⟩ (gdec dt_X8_init 43 rfl) (fun q1 => ?_)
  refine cn_ws (ws2 := [(h0, .inr (8, [.int 0, .int 0, .int (-1), .long 0, .int (-1), .int (-1), .int 0, .int 0, .long 0, .int 0, .int 0, .int 0, .int 0, .null, .null, .null, .null])), (q1, .inl (cA 1, 900, .inl (fun _ => 0)))]) rfl ?_
  refine cn_putF C hin kf_X8_53 (fun _ _ _ h => by cases h; rfl) (q0 := 0) rfl rfl rfl (Nat.le_of_ble_eq_true rfl) (ws2 := [(h0, .inr (8, [.int 0, .int 0, .int (-1), .long 0, .int (-1), .int (-1), .int 0, .int 0, .long 0, .int 0, .int 0, .int 0, .int 0, .ref q1, .null, .null, .null])), (q1, .inl (cA 1, 900, .inl (fun _ => 0)))]) rfl (gdec dt_X8_init 44 rfl) ?_
  refine cn_aload_n C (gdec dt_X8_init 45 rfl) (i := 0) rfl rfl ?_
  refine cn_sipush C (gdec dt_X8_init 46 rfl) (v := 901) (by decide) ?_
  refine cn_newa (t := 0) (N := 901) (a0 := (901, .inl (fun _ => 0))) C .int rfl rfl (fun _ => Iff.rfl) kac_arr0 (fun _ => rfl) (by decide) (by decide) (by decide) ⟨by decide, by decide⟩ (gdec dt_X8_init 47 rfl) (fun q2 => ?_)
  refine cn_ws (ws2 := [(h0, .inr (8, [.int 0, .int 0, .int (-1), .long 0, .int (-1), .int (-1), .int 0, .int 0, .long 0, .int 0, .int 0, .int 0, .int 0, .ref q1, .null, .null, .null])), (q1, .inl (cA 1, 900, .inl (fun _ => 0))), (q2, .inl (cA 0, 901, .inl (fun _ => 0)))]) rfl ?_
  refine cn_putF C hin kf_X8_57 (fun _ _ _ h => by cases h; rfl) (q0 := 0) rfl rfl rfl (Nat.le_of_ble_eq_true rfl) (ws2 := [(h0, .inr (8, [.int 0, .int 0, .int (-1), .long 0, .int (-1), .int (-1), .int 0, .int 0, .long 0, .int 0, .int 0, .int 0, .int 0, .ref q1, .ref q2, .null, .null])), (q1, .inl (cA 1, 900, .inl (fun _ => 0))), (q2, .inl (cA 0, 901, .inl (fun _ => 0)))]) rfl (gdec dt_X8_init 48 rfl) ?_
  refine cn_aload_n C (gdec dt_X8_init 49 rfl) (i := 0) rfl rfl ?_
  refine cn_sipush C (gdec dt_X8_init 50 rfl) (v := 901) (by decide) ?_
  refine cn_newa (t := 0) (N := 901) (a0 := (901, .inl (fun _ => 0))) C .int rfl rfl (fun _ => Iff.rfl) kac_arr0 (fun _ => rfl) (by decide) (by decide) (by decide) ⟨by decide, by decide⟩ (gdec dt_X8_init 51 rfl) (fun q3 => ?_)
  refine cn_ws (ws2 := [(h0, .inr (8, [.int 0, .int 0, .int (-1), .long 0, .int (-1), .int (-1), .int 0, .int 0, .long 0, .int 0, .int 0, .int 0, .int 0, .ref q1, .ref q2, .null, .null])), (q1, .inl (cA 1, 900, .inl (fun _ => 0))), (q2, .inl (cA 0, 901, .inl (fun _ => 0))), (q3, .inl (cA 0, 901, .inl (fun _ => 0)))]) rfl ?_
  refine cn_putF C hin kf_X8_61 (fun _ _ _ h => by cases h; rfl) (q0 := 0) rfl rfl rfl (Nat.le_of_ble_eq_true rfl) (ws2 := [(h0, .inr (8, [.int 0, .int 0, .int (-1), .long 0, .int (-1), .int (-1), .int 0, .int 0, .long 0, .int 0, .int 0, .int 0, .int 0, .ref q1, .ref q2, .ref q3, .null])), (q1, .inl (cA 1, 900, .inl (fun _ => 0))), (q2, .inl (cA 0, 901, .inl (fun _ => 0))), (q3, .inl (cA 0, 901, .inl (fun _ => 0)))]) rfl (gdec dt_X8_init 52 rfl) ?_
  refine cn_aload_n C (gdec dt_X8_init 53 rfl) (i := 0) rfl rfl ?_
  refine cn_sipush C (gdec dt_X8_init 54 rfl) (v := 901) (by decide) ?_
  refine cn_newa (t := 3) (N := 901) (a0 := (901, .inr (.inl (fun _ => 0)))) C .long rfl rfl (fun _ => Iff.rfl) kac_arr3 (fun _ => rfl) (by decide) (by decide) (by decide) ⟨by decide, by decide⟩ (gdec dt_X8_init 55 rfl) (fun q4 => ?_)
  refine cn_ws (ws2 := [(h0, .inr (8, [.int 0, .int 0, .int (-1), .long 0, .int (-1), .int (-1), .int 0, .int 0, .long 0, .int 0, .int 0, .int 0, .int 0, .ref q1, .ref q2, .ref q3, .null])), (q1, .inl (cA 1, 900, .inl (fun _ => 0))), (q2, .inl (cA 0, 901, .inl (fun _ => 0))), (q3, .inl (cA 0, 901, .inl (fun _ => 0))), (q4, .inl (cA 3, 901, .inr (.inl (fun _ => 0))))]) rfl ?_
  refine cn_putF C hin kf_X8_64 (fun _ _ _ h => by cases h; rfl) (q0 := 0) rfl rfl rfl (Nat.le_of_ble_eq_true rfl) (ws2 := [(h0, .inr (8, [.int 0, .int 0, .int (-1), .long 0, .int (-1), .int (-1), .int 0, .int 0, .long 0, .int 0, .int 0, .int 0, .int 0, .ref q1, .ref q2, .ref q3, .ref q4])), (q1, .inl (cA 1, 900, .inl (fun _ => 0))), (q2, .inl (cA 0, 901, .inl (fun _ => 0))), (q3, .inl (cA 0, 901, .inl (fun _ => 0))), (q4, .inl (cA 3, 901, .inr (.inl (fun _ => 0))))]) rfl (gdec dt_X8_init 56 rfl) ?_
  exact cn_vret C hr hlk ⟨q1, q2, q3, q4, rfl⟩ (gdec dt_X8_init 57 rfl)
def PC_X9_init (cA adS : Nat → Nat) (h0 : Nat) : va_W → Prop := fun w1 => ∃ q1 q2 q3 q4 q5 q6 q7 : Nat, w1 = [(h0, .inr (9, [.ref q1, .ref q6, .ref q7])), (q1, .inl (cA 5, 4, .inr (.inr (.inr (.inr (fun n => ([q2, q3, q4, q5] : List Nat)[n]?)))))), (q2, .inl (cA 3, 60, .inr (.inl (fun _ => 0)))), (q3, .inl (cA 3, 60, .inr (.inl (fun _ => 0)))), (q4, .inl (cA 3, 60, .inr (.inl (fun _ => 0)))), (q5, .inl (cA 3, 60, .inr (.inl (fun _ => 0)))), (q6, .inl (cA 0, 4, .inl (upd (upd (upd (upd (fun _ => 0) 0 (-1)) 1 (-1)) 2 (-1)) 3 (-1)))), (q7, .inl (cA 0, 4, .inl (fun _ => 0)))]
def tb_X9_init : List (Nat × Jvm.ClassFile.Instr × Nat) := [(0, .aload_n 0, 1), (1, .invokespecial 3, 3), (4, .aload_n 0, 1), (5, .iconst 4, 1), (6, .bipush 60, 2), (8, .multianewarray 9 2, 4), (12, .putfield 11, 3), (15, .aload_n 0, 1), (16, .iconst 4, 1), (17, .newarray .int, 2), (19, .putfield 16, 3), (22, .aload_n 0, 1), (23, .iconst 4, 1), (24, .newarray .int, 2), (26, .putfield 20, 3), (29, .iconst 0, 1), (30, .istore_n 1, 1), (31, .iload_n 1, 1), (32, .iconst 4, 1), (33, .if_icmp .ge 16, 3), (36, .aload_n 0, 1), (37, .getfield 16, 3), (40, .iload_n 1, 1), (41, .iconst (-1), 1), (42, .iastore, 1), (43, .iinc 1 1, 3), (46, .goto (-15), 3), (49, .return_, 1)]
set_option maxRecDepth 100000 in
theorem dt_X9_init : ∀ q ∈ tb_X9_init, decode cX9_init q.1 = .ok q.2 := by decide +kernel
set_option maxHeartbeats 8000000 in
set_option maxRecDepth 100000 in
theorem cc_X9_init (l : Launch) (D : va_G) (cA adS : Nat → Nat) (h0 : Nat) : cMet l yX9_init cX9_init 2 1 120 7 252 D cA adS h0 [] (.inr (9, [.null, .null, .null])) (PC_X9_init cA adS h0) := by
  refine c_entry (by decide) rfl (Nat.le_of_ble_eq_true rfl) ?_
  intro p e s m args below meth c sz C hr hlk hin
  show cW p l e { frames := 1, cells := 7, slots := 252, locals := 120 } s m args below meth c D (va_A [(h0, (.inr (9, [.null, .null, .null])))] sz) 2 0 0 (MQ below (cPost D (va_A [(h0, (.inr (9, [.null, .null, .null])))] sz) (PC_X9_init cA adS h0)) args s 7 252 (va_A [(h0, (.inr (9, [.null, .null, .null])))] sz)) 0 [(0, .ref h0)] [] [(h0, (.inr (9, [.null, .null, .null])))]
  refine cn_aload_n C (gdec dt_X9_init 0 rfl) (i := 0) rfl rfl ?_
  refine cn_obj C kl_X9_3 kim_obj kc_obj (gdec dt_X9_init 1 rfl) (Nat.le_of_ble_eq_true rfl) ⟨by decide, by decide⟩ ?_
  refine cn_aload_n C (gdec dt_X9_init 2 rfl) (i := 0) rfl rfl ?_
  refine cn_iconst C (gdec dt_X9_init 3 rfl) (v := 4) (by decide) ?_
  refine cn_bipush C (gdec dt_X9_init 4 rfl) (v := 60) (by decide) ?_
  refine cn_newm C kcl_X9_9 kac_arr3 ⟨by decide, by decide⟩ (gdec dt_X9_init 5 rfl) (fun q1 q2 q3 q4 q5 => ?_)
  refine cn_ws (ws2 := [(h0, .inr (9, [.null, .null, .null])), (q1, .inl (cA 5, 4, .inr (.inr (.inr (.inr (fun n => ([q2, q3, q4, q5] : List Nat)[n]?)))))), (q2, .inl (cA 3, 60, .inr (.inl (fun _ => 0)))), (q3, .inl (cA 3, 60, .inr (.inl (fun _ => 0)))), (q4, .inl (cA 3, 60, .inr (.inl (fun _ => 0)))), (q5, .inl (cA 3, 60, .inr (.inl (fun _ => 0))))]) rfl ?_
  refine cn_putF C hin kf_X9_11 (fun _ _ _ h => by cases h; rfl) (q0 := 0) rfl rfl rfl (Nat.le_of_ble_eq_true rfl) (ws2 := [(h0, .inr (9, [.ref q1, .null, .null])), (q1, .inl (cA 5, 4, .inr (.inr (.inr (.inr (fun n => ([q2, q3, q4, q5] : List Nat)[n]?)))))), (q2, .inl (cA 3, 60, .inr (.inl (fun _ => 0)))), (q3, .inl (cA 3, 60, .inr (.inl (fun _ => 0)))), (q4, .inl (cA 3, 60, .inr (.inl (fun _ => 0)))), (q5, .inl (cA 3, 60, .inr (.inl (fun _ => 0))))]) rfl (gdec dt_X9_init 6 rfl) ?_
  refine cn_aload_n C (gdec dt_X9_init 7 rfl) (i := 0) rfl rfl ?_
  refine cn_iconst C (gdec dt_X9_init 8 rfl) (v := 4) (by decide) ?_
  refine cn_newa (t := 0) (N := 4) (a0 := (4, .inl (fun _ => 0))) C .int rfl rfl (fun _ => Iff.rfl) kac_arr0 (fun _ => rfl) (by decide) (by decide) (by decide) ⟨by decide, by decide⟩ (gdec dt_X9_init 9 rfl) (fun q6 => ?_)
  refine cn_ws (ws2 := [(h0, .inr (9, [.ref q1, .null, .null])), (q1, .inl (cA 5, 4, .inr (.inr (.inr (.inr (fun n => ([q2, q3, q4, q5] : List Nat)[n]?)))))), (q2, .inl (cA 3, 60, .inr (.inl (fun _ => 0)))), (q3, .inl (cA 3, 60, .inr (.inl (fun _ => 0)))), (q4, .inl (cA 3, 60, .inr (.inl (fun _ => 0)))), (q5, .inl (cA 3, 60, .inr (.inl (fun _ => 0)))), (q6, .inl (cA 0, 4, .inl (fun _ => 0)))]) rfl ?_
  refine cn_putF C hin kf_X9_16 (fun _ _ _ h => by cases h; rfl) (q0 := 0) rfl rfl rfl (Nat.le_of_ble_eq_true rfl) (ws2 := [(h0, .inr (9, [.ref q1, .ref q6, .null])), (q1, .inl (cA 5, 4, .inr (.inr (.inr (.inr (fun n => ([q2, q3, q4, q5] : List Nat)[n]?)))))), (q2, .inl (cA 3, 60, .inr (.inl (fun _ => 0)))), (q3, .inl (cA 3, 60, .inr (.inl (fun _ => 0)))), (q4, .inl (cA 3, 60, .inr (.inl (fun _ => 0)))), (q5, .inl (cA 3, 60, .inr (.inl (fun _ => 0)))), (q6, .inl (cA 0, 4, .inl (fun _ => 0)))]) rfl (gdec dt_X9_init 10 rfl) ?_
  refine cn_aload_n C (gdec dt_X9_init 11 rfl) (i := 0) rfl rfl ?_
  refine cn_iconst C (gdec dt_X9_init 12 rfl) (v := 4) (by decide) ?_
  refine cn_newa (t := 0) (N := 4) (a0 := (4, .inl (fun _ => 0))) C .int rfl rfl (fun _ => Iff.rfl) kac_arr0 (fun _ => rfl) (by decide) (by decide) (by decide) ⟨by decide, by decide⟩ (gdec dt_X9_init 13 rfl) (fun q7 => ?_)
  refine cn_ws (ws2 := [(h0, .inr (9, [.ref q1, .ref q6, .null])), (q1, .inl (cA 5, 4, .inr (.inr (.inr (.inr (fun n => ([q2, q3, q4, q5] : List Nat)[n]?)))))), (q2, .inl (cA 3, 60, .inr (.inl (fun _ => 0)))), (q3, .inl (cA 3, 60, .inr (.inl (fun _ => 0)))), (q4, .inl (cA 3, 60, .inr (.inl (fun _ => 0)))), (q5, .inl (cA 3, 60, .inr (.inl (fun _ => 0)))), (q6, .inl (cA 0, 4, .inl (fun _ => 0))), (q7, .inl (cA 0, 4, .inl (fun _ => 0)))]) rfl ?_
  refine cn_putF C hin kf_X9_20 (fun _ _ _ h => by cases h; rfl) (q0 := 0) rfl rfl rfl (Nat.le_of_ble_eq_true rfl) (ws2 := [(h0, .inr (9, [.ref q1, .ref q6, .ref q7])), (q1, .inl (cA 5, 4, .inr (.inr (.inr (.inr (fun n => ([q2, q3, q4, q5] : List Nat)[n]?)))))), (q2, .inl (cA 3, 60, .inr (.inl (fun _ => 0)))), (q3, .inl (cA 3, 60, .inr (.inl (fun _ => 0)))), (q4, .inl (cA 3, 60, .inr (.inl (fun _ => 0)))), (q5, .inl (cA 3, 60, .inr (.inl (fun _ => 0)))), (q6, .inl (cA 0, 4, .inl (fun _ => 0))), (q7, .inl (cA 0, 4, .inl (fun _ => 0)))]) rfl (gdec dt_X9_init 14 rfl) ?_
  refine cn_iconst C (gdec dt_X9_init 15 rfl) (v := 0) (by decide) ?_
  refine cn_istore_n C (gdec dt_X9_init 16 rfl) (i := 1) rfl (by decide) (lo2 := [(1, .int 0), (0, .ref h0)]) rfl ?_
  refine cn_iload_n C (gdec dt_X9_init 17 rfl) (i := 1) rfl rfl ?_
  refine cn_iconst C (gdec dt_X9_init 18 rfl) (v := 4) (by decide) ?_
  refine cn_icmp_ge C (tgt := 49) (gdec dt_X9_init 19 rfl) (by decide) (fun h => absurd h (by decide)) (fun _ => ?_)
  refine cn_aload_n C (gdec dt_X9_init 20 rfl) (i := 0) rfl rfl ?_
  refine cn_get C kf_X9_16 (q0 := 0) rfl (v := .ref q6) rfl (gdec dt_X9_init 21 rfl) ?_
  refine cn_iload_n C (gdec dt_X9_init 22 rfl) (i := 1) rfl rfl ?_
  refine cn_iconst C (gdec dt_X9_init 23 rfl) (v := -1) (by decide) ?_
  refine cn_iast C (q0 := 6) rfl (gin_k (k := 0) (by decide) (by decide) (by decide)) (kx := 0) (by decide) (ws2 := [(h0, .inr (9, [.ref q1, .ref q6, .ref q7])), (q1, .inl (cA 5, 4, .inr (.inr (.inr (.inr (fun n => ([q2, q3, q4, q5] : List Nat)[n]?)))))), (q2, .inl (cA 3, 60, .inr (.inl (fun _ => 0)))), (q3, .inl (cA 3, 60, .inr (.inl (fun _ => 0)))), (q4, .inl (cA 3, 60, .inr (.inl (fun _ => 0)))), (q5, .inl (cA 3, 60, .inr (.inl (fun _ => 0)))), (q6, .inl (cA 0, 4, .inl (upd (fun _ => 0) 0 (-1)))), (q7, .inl (cA 0, 4, .inl (fun _ => 0)))]) rfl (gdec dt_X9_init 24 rfl) ?_
  refine cn_iinc C (gdec dt_X9_init 25 rfl) (kk := 0) rfl (v := 1) (by decide) (by decide) (lo2 := [(1, .int 1), (0, .ref h0)]) rfl ?_
  refine cn_goto C (tgt := 31) (gdec dt_X9_init 26 rfl) (by decide) ?_
  refine cn_iload_n C (gdec dt_X9_init 17 rfl) (i := 1) rfl rfl ?_
  refine cn_iconst C (gdec dt_X9_init 18 rfl) (v := 4) (by decide) ?_
  refine cn_icmp_ge C (tgt := 49) (gdec dt_X9_init 19 rfl) (by decide) (fun h => absurd h (by decide)) (fun _ => ?_)
  refine cn_aload_n C (gdec dt_X9_init 20 rfl) (i := 0) rfl rfl ?_
  refine cn_get C kf_X9_16 (q0 := 0) rfl (v := .ref q6) rfl (gdec dt_X9_init 21 rfl) ?_
  refine cn_iload_n C (gdec dt_X9_init 22 rfl) (i := 1) rfl rfl ?_
  refine cn_iconst C (gdec dt_X9_init 23 rfl) (v := -1) (by decide) ?_
  refine cn_iast C (q0 := 6) rfl (gin_k (k := 1) (by decide) (by decide) (by decide)) (kx := 1) (by decide) (ws2 := [(h0, .inr (9, [.ref q1, .ref q6, .ref q7])), (q1, .inl (cA 5, 4, .inr (.inr (.inr (.inr (fun n => ([q2, q3, q4, q5] : List Nat)[n]?)))))), (q2, .inl (cA 3, 60, .inr (.inl (fun _ => 0)))), (q3, .inl (cA 3, 60, .inr (.inl (fun _ => 0)))), (q4, .inl (cA 3, 60, .inr (.inl (fun _ => 0)))), (q5, .inl (cA 3, 60, .inr (.inl (fun _ => 0)))), (q6, .inl (cA 0, 4, .inl (upd (upd (fun _ => 0) 0 (-1)) 1 (-1)))), (q7, .inl (cA 0, 4, .inl (fun _ => 0)))]) rfl (gdec dt_X9_init 24 rfl) ?_
  refine cn_iinc C (gdec dt_X9_init 25 rfl) (kk := 0) rfl (v := 2) (by decide) (by decide) (lo2 := [(1, .int 2), (0, .ref h0)]) rfl ?_
  refine cn_goto C (tgt := 31) (gdec dt_X9_init 26 rfl) (by decide) ?_
  refine cn_iload_n C (gdec dt_X9_init 17 rfl) (i := 1) rfl rfl ?_
  refine cn_iconst C (gdec dt_X9_init 18 rfl) (v := 4) (by decide) ?_
  refine cn_icmp_ge C (tgt := 49) (gdec dt_X9_init 19 rfl) (by decide) (fun h => absurd h (by decide)) (fun _ => ?_)
  refine cn_aload_n C (gdec dt_X9_init 20 rfl) (i := 0) rfl rfl ?_
  refine cn_get C kf_X9_16 (q0 := 0) rfl (v := .ref q6) rfl (gdec dt_X9_init 21 rfl) ?_
  refine cn_iload_n C (gdec dt_X9_init 22 rfl) (i := 1) rfl rfl ?_
  refine cn_iconst C (gdec dt_X9_init 23 rfl) (v := -1) (by decide) ?_
  refine cn_iast C (q0 := 6) rfl (gin_k (k := 2) (by decide) (by decide) (by decide)) (kx := 2) (by decide) (ws2 := [(h0, .inr (9, [.ref q1, .ref q6, .ref q7])), (q1, .inl (cA 5, 4, .inr (.inr (.inr (.inr (fun n => ([q2, q3, q4, q5] : List Nat)[n]?)))))), (q2, .inl (cA 3, 60, .inr (.inl (fun _ => 0)))), (q3, .inl (cA 3, 60, .inr (.inl (fun _ => 0)))), (q4, .inl (cA 3, 60, .inr (.inl (fun _ => 0)))), (q5, .inl (cA 3, 60, .inr (.inl (fun _ => 0)))), (q6, .inl (cA 0, 4, .inl (upd (upd (upd (fun _ => 0) 0 (-1)) 1 (-1)) 2 (-1)))), (q7, .inl (cA 0, 4, .inl (fun _ => 0)))]) rfl (gdec dt_X9_init 24 rfl) ?_
  refine cn_iinc C (gdec dt_X9_init 25 rfl) (kk := 0) rfl (v := 3) (by decide) (by decide) (lo2 := [(1, .int 3), (0, .ref h0)]) rfl ?_
  refine cn_goto C (tgt := 31) (gdec dt_X9_init 26 rfl) (by decide) ?_
  refine cn_iload_n C (gdec dt_X9_init 17 rfl) (i := 1) rfl rfl ?_
  refine cn_iconst C (gdec dt_X9_init 18 rfl) (v := 4) (by decide) ?_
  refine cn_icmp_ge C (tgt := 49) (gdec dt_X9_init 19 rfl) (by decide) (fun h => absurd h (by decide)) (fun _ => ?_)
  refine cn_aload_n C (gdec dt_X9_init 20 rfl) (i := 0) rfl rfl ?_
  refine cn_get C kf_X9_16 (q0 := 0) rfl (v := .ref q6) rfl (gdec dt_X9_init 21 rfl) ?_
  refine cn_iload_n C (gdec dt_X9_init 22 rfl) (i := 1) rfl rfl ?_
  refine cn_iconst C (gdec dt_X9_init 23 rfl) (v := -1) (by decide) ?_
  refine cn_iast C (q0 := 6) rfl (gin_k (k := 3) (by decide) (by decide) (by decide)) (kx := 3) (by decide) (ws2 := [(h0, .inr (9, [.ref q1, .ref q6, .ref q7])), (q1, .inl (cA 5, 4, .inr (.inr (.inr (.inr (fun n => ([q2, q3, q4, q5] : List Nat)[n]?)))))), (q2, .inl (cA 3, 60, .inr (.inl (fun _ => 0)))), (q3, .inl (cA 3, 60, .inr (.inl (fun _ => 0)))), (q4, .inl (cA 3, 60, .inr (.inl (fun _ => 0)))), (q5, .inl (cA 3, 60, .inr (.inl (fun _ => 0)))), (q6, .inl (cA 0, 4, .inl (upd (upd (upd (upd (fun _ => 0) 0 (-1)) 1 (-1)) 2 (-1)) 3 (-1)))), (q7, .inl (cA 0, 4, .inl (fun _ => 0)))]) rfl (gdec dt_X9_init 24 rfl) ?_
  refine cn_iinc C (gdec dt_X9_init 25 rfl) (kk := 0) rfl (v := 4) (by decide) (by decide) (lo2 := [(1, .int 4), (0, .ref h0)]) rfl ?_
  refine cn_goto C (tgt := 31) (gdec dt_X9_init 26 rfl) (by decide) ?_
  refine cn_iload_n C (gdec dt_X9_init 17 rfl) (i := 1) rfl rfl ?_
  refine cn_iconst C (gdec dt_X9_init 18 rfl) (v := 4) (by decide) ?_
  refine cn_icmp_ge C (tgt := 49) (gdec dt_X9_init 19 rfl) (by decide) (fun _ => ?_) (fun h => absurd (by decide) h)
  exact cn_vret C hr hlk ⟨q1, q2, q3, q4, q5, q6, q7, rfl⟩ (gdec dt_X9_init 27 rfl)
def PC_X1_init (cA adS : Nat → Nat) (h0 : Nat) (h1 : Nat) (h2 : Nat) : va_W → Prop := fun w1 => w1 = [(h0, .inr (1, [.ref h1, .ref h2, .int 0, .int 0]))]
def tb_X1_init : List (Nat × Jvm.ClassFile.Instr × Nat) := [(0, .aload_n 0, 1), (1, .invokespecial 3, 3), (4, .aload_n 0, 1), (5, .iconst 0, 1), (6, .putfield 9, 3), (9, .aload_n 0, 1), (10, .iconst 0, 1), (11, .putfield 15, 3), (14, .aload_n 0, 1), (15, .aload_n 1, 1), (16, .putfield 18, 3), (19, .aload_n 0, 1), (20, .aload_n 2, 1), (21, .putfield 22, 3), (24, .return_, 1)]
set_option maxRecDepth 100000 in
theorem dt_X1_init : ∀ q ∈ tb_X1_init, decode cX1_init q.1 = .ok q.2 := by decide +kernel
set_option maxHeartbeats 8000000 in
set_option maxRecDepth 100000 in
theorem cc_X1_init (l : Launch) (D : va_G) (cA adS : Nat → Nat) (h0 : Nat) (h1 : Nat) (h2 : Nat) : cMet l yX1_init cX1_init 3 1 120 0 0 D cA adS h0 [.ref h1, .ref h2] (.inr (1, [.null, .null, .int 0, .int 0])) (PC_X1_init cA adS h0 h1 h2) := by
  refine c_entry (by decide) rfl (Nat.le_of_ble_eq_true rfl) ?_
  intro p e s m args below meth c sz C hr hlk hin
  show cW p l e { frames := 1, cells := 0, slots := 0, locals := 120 } s m args below meth c D (va_A [(h0, (.inr (1, [.null, .null, .int 0, .int 0])))] sz) 3 0 0 (MQ below (cPost D (va_A [(h0, (.inr (1, [.null, .null, .int 0, .int 0])))] sz) (PC_X1_init cA adS h0 h1 h2)) args s 0 0 (va_A [(h0, (.inr (1, [.null, .null, .int 0, .int 0])))] sz)) 0 [(0, .ref h0), (1, .ref h1), (2, .ref h2)] [] [(h0, (.inr (1, [.null, .null, .int 0, .int 0])))]
  refine cn_aload_n C (gdec dt_X1_init 0 rfl) (i := 0) rfl rfl ?_
  refine cn_obj C kl_X1_3 kim_obj kc_obj (gdec dt_X1_init 1 rfl) (Nat.le_of_ble_eq_true rfl) ⟨by decide, by decide⟩ ?_
  refine cn_aload_n C (gdec dt_X1_init 2 rfl) (i := 0) rfl rfl ?_
  refine cn_iconst C (gdec dt_X1_init 3 rfl) (v := 0) (by decide) ?_
  refine cn_put C kf_X1_9 (q0 := 0) rfl rfl rfl (Nat.le_of_ble_eq_true rfl) (ws2 := [(h0, .inr (1, [.null, .null, .int 0, .int 0]))]) rfl (gdec dt_X1_init 4 rfl) ?_
  refine cn_aload_n C (gdec dt_X1_init 5 rfl) (i := 0) rfl rfl ?_
  refine cn_iconst C (gdec dt_X1_init 6 rfl) (v := 0) (by decide) ?_
  refine cn_put C kf_X1_15 (q0 := 0) rfl rfl rfl (Nat.le_of_ble_eq_true rfl) (ws2 := [(h0, .inr (1, [.null, .null, .int 0, .int 0]))]) rfl (gdec dt_X1_init 7 rfl) ?_
  refine cn_aload_n C (gdec dt_X1_init 8 rfl) (i := 0) rfl rfl ?_
  refine cn_aload_n C (gdec dt_X1_init 9 rfl) (i := 1) rfl rfl ?_
  refine cn_putF C hin kf_X1_18 (fun _ _ _ h => by cases h; rfl) (q0 := 0) rfl rfl rfl (Nat.le_of_ble_eq_true rfl) (ws2 := [(h0, .inr (1, [.ref h1, .null, .int 0, .int 0]))]) rfl (gdec dt_X1_init 10 rfl) ?_
  refine cn_aload_n C (gdec dt_X1_init 11 rfl) (i := 0) rfl rfl ?_
  refine cn_aload_n C (gdec dt_X1_init 12 rfl) (i := 2) rfl rfl ?_
  refine cn_putF C hin kf_X1_22 (fun _ _ _ h => by cases h; rfl) (q0 := 0) rfl rfl rfl (Nat.le_of_ble_eq_true rfl) (ws2 := [(h0, .inr (1, [.ref h1, .ref h2, .int 0, .int 0]))]) rfl (gdec dt_X1_init 13 rfl) ?_
  exact cn_vret C hr hlk rfl (gdec dt_X1_init 14 rfl)
def PC_X6_init (cA adS : Nat → Nat) (h0 : Nat) (h1 : Nat) (h2 : Nat) (h3 : Nat) : va_W → Prop := fun w1 => ∃ q1 : Nat, w1 = [(h0, .inr (6, [.ref h1, .ref h2, .ref h3, .ref q1, .int 0])), (q1, .inl (cA 0, 3, .inl (fun _ => 0)))]
def tb_X6_init : List (Nat × Jvm.ClassFile.Instr × Nat) := [(0, .aload_n 0, 1), (1, .invokespecial 3, 3), (4, .aload_n 0, 1), (5, .iconst 3, 1), (6, .newarray .int, 2), (8, .putfield 9, 3), (11, .aload_n 0, 1), (12, .iconst 0, 1), (13, .putfield 15, 3), (16, .aload_n 0, 1), (17, .aload_n 1, 1), (18, .putfield 19, 3), (21, .aload_n 0, 1), (22, .aload_n 2, 1), (23, .putfield 23, 3), (26, .aload_n 0, 1), (27, .aload_n 3, 1), (28, .putfield 27, 3), (31, .return_, 1)]
set_option maxRecDepth 100000 in
theorem dt_X6_init : ∀ q ∈ tb_X6_init, decode cX6_init q.1 = .ok q.2 := by decide +kernel
set_option maxHeartbeats 8000000 in
set_option maxRecDepth 100000 in
theorem cc_X6_init (l : Launch) (D : va_G) (cA adS : Nat → Nat) (h0 : Nat) (h1 : Nat) (h2 : Nat) (h3 : Nat) : cMet l yX6_init cX6_init 4 1 120 1 3 D cA adS h0 [.ref h1, .ref h2, .ref h3] (.inr (6, [.null, .null, .null, .null, .int 0])) (PC_X6_init cA adS h0 h1 h2 h3) := by
  refine c_entry (by decide) rfl (Nat.le_of_ble_eq_true rfl) ?_
  intro p e s m args below meth c sz C hr hlk hin
  show cW p l e { frames := 1, cells := 1, slots := 3, locals := 120 } s m args below meth c D (va_A [(h0, (.inr (6, [.null, .null, .null, .null, .int 0])))] sz) 4 0 0 (MQ below (cPost D (va_A [(h0, (.inr (6, [.null, .null, .null, .null, .int 0])))] sz) (PC_X6_init cA adS h0 h1 h2 h3)) args s 1 3 (va_A [(h0, (.inr (6, [.null, .null, .null, .null, .int 0])))] sz)) 0 [(0, .ref h0), (1, .ref h1), (2, .ref h2), (3, .ref h3)] [] [(h0, (.inr (6, [.null, .null, .null, .null, .int 0])))]
  refine cn_aload_n C (gdec dt_X6_init 0 rfl) (i := 0) rfl rfl ?_
  refine cn_obj C kl_X6_3 kim_obj kc_obj (gdec dt_X6_init 1 rfl) (Nat.le_of_ble_eq_true rfl) ⟨by decide, by decide⟩ ?_
  refine cn_aload_n C (gdec dt_X6_init 2 rfl) (i := 0) rfl rfl ?_
  refine cn_iconst C (gdec dt_X6_init 3 rfl) (v := 3) (by decide) ?_
  refine cn_newa (t := 0) (N := 3) (a0 := (3, .inl (fun _ => 0))) C .int rfl rfl (fun _ => Iff.rfl) kac_arr0 (fun _ => rfl) (by decide) (by decide) (by decide) ⟨by decide, by decide⟩ (gdec dt_X6_init 4 rfl) (fun q1 => ?_)
  refine cn_ws (ws2 := [(h0, .inr (6, [.null, .null, .null, .null, .int 0])), (q1, .inl (cA 0, 3, .inl (fun _ => 0)))]) rfl ?_
  refine cn_putF C hin kf_X6_9 (fun _ _ _ h => by cases h; rfl) (q0 := 0) rfl rfl rfl (Nat.le_of_ble_eq_true rfl) (ws2 := [(h0, .inr (6, [.null, .null, .null, .ref q1, .int 0])), (q1, .inl (cA 0, 3, .inl (fun _ => 0)))]) rfl (gdec dt_X6_init 5 rfl) ?_
  refine cn_aload_n C (gdec dt_X6_init 6 rfl) (i := 0) rfl rfl ?_
  refine cn_iconst C (gdec dt_X6_init 7 rfl) (v := 0) (by decide) ?_
  refine cn_put C kf_X6_15 (q0 := 0) rfl rfl rfl (Nat.le_of_ble_eq_true rfl) (ws2 := [(h0, .inr (6, [.null, .null, .null, .ref q1, .int 0])), (q1, .inl (cA 0, 3, .inl (fun _ => 0)))]) rfl (gdec dt_X6_init 8 rfl) ?_
  refine cn_aload_n C (gdec dt_X6_init 9 rfl) (i := 0) rfl rfl ?_
  refine cn_aload_n C (gdec dt_X6_init 10 rfl) (i := 1) rfl rfl ?_
  refine cn_putF C hin kf_X6_19 (fun _ _ _ h => by cases h; rfl) (q0 := 0) rfl rfl rfl (Nat.le_of_ble_eq_true rfl) (ws2 := [(h0, .inr (6, [.ref h1, .null, .null, .ref q1, .int 0])), (q1, .inl (cA 0, 3, .inl (fun _ => 0)))]) rfl (gdec dt_X6_init 11 rfl) ?_
  refine cn_aload_n C (gdec dt_X6_init 12 rfl) (i := 0) rfl rfl ?_
  refine cn_aload_n C (gdec dt_X6_init 13 rfl) (i := 2) rfl rfl ?_
  refine cn_putF C hin kf_X6_23 (fun _ _ _ h => by cases h; rfl) (q0 := 0) rfl rfl rfl (Nat.le_of_ble_eq_true rfl) (ws2 := [(h0, .inr (6, [.ref h1, .ref h2, .null, .ref q1, .int 0])), (q1, .inl (cA 0, 3, .inl (fun _ => 0)))]) rfl (gdec dt_X6_init 14 rfl) ?_
  refine cn_aload_n C (gdec dt_X6_init 15 rfl) (i := 0) rfl rfl ?_
  refine cn_aload_n C (gdec dt_X6_init 16 rfl) (i := 3) rfl rfl ?_
  refine cn_putF C hin kf_X6_27 (fun _ _ _ h => by cases h; rfl) (q0 := 0) rfl rfl rfl (Nat.le_of_ble_eq_true rfl) (ws2 := [(h0, .inr (6, [.ref h1, .ref h2, .ref h3, .ref q1, .int 0])), (q1, .inl (cA 0, 3, .inl (fun _ => 0)))]) rfl (gdec dt_X6_init 17 rfl) ?_
  exact cn_vret C hr hlk ⟨q1, rfl⟩ (gdec dt_X6_init 18 rfl)
def PC_X2_init (cA adS : Nat → Nat) (h0 : Nat) : va_W → Prop := fun w1 => ∃ q1 q2 q3 : Nat, w1 = [(h0, .inr (2, [.int 0, .int 0, .ref q1, .ref q2, .ref q3])), (q1, .inl (cA 0, 6, .inl (fun _ => 0))), (q2, .inl (cA 0, 6, .inl (fun _ => 0))), (q3, .inl (cA 0, 6, .inl (fun _ => 0)))]
def tb_X2_init : List (Nat × Jvm.ClassFile.Instr × Nat) := [(0, .aload_n 0, 1), (1, .invokespecial 3, 3), (4, .aload_n 0, 1), (5, .bipush 6, 2), (7, .newarray .int, 2), (9, .putfield 9, 3), (12, .aload_n 0, 1), (13, .bipush 6, 2), (15, .newarray .int, 2), (17, .putfield 15, 3), (20, .aload_n 0, 1), (21, .bipush 6, 2), (23, .newarray .int, 2), (25, .putfield 18, 3), (28, .return_, 1)]
set_option maxRecDepth 100000 in
theorem dt_X2_init : ∀ q ∈ tb_X2_init, decode cX2_init q.1 = .ok q.2 := by decide +kernel
set_option maxHeartbeats 8000000 in
set_option maxRecDepth 100000 in
theorem cc_X2_init (l : Launch) (D : va_G) (cA adS : Nat → Nat) (h0 : Nat) : cMet l yX2_init cX2_init 1 1 120 3 18 D cA adS h0 [] (.inr (2, [.int 0, .int 0, .null, .null, .null])) (PC_X2_init cA adS h0) := by
  refine c_entry (by decide) rfl (Nat.le_of_ble_eq_true rfl) ?_
  intro p e s m args below meth c sz C hr hlk hin
  show cW p l e { frames := 1, cells := 3, slots := 18, locals := 120 } s m args below meth c D (va_A [(h0, (.inr (2, [.int 0, .int 0, .null, .null, .null])))] sz) 1 0 0 (MQ below (cPost D (va_A [(h0, (.inr (2, [.int 0, .int 0, .null, .null, .null])))] sz) (PC_X2_init cA adS h0)) args s 3 18 (va_A [(h0, (.inr (2, [.int 0, .int 0, .null, .null, .null])))] sz)) 0 [(0, .ref h0)] [] [(h0, (.inr (2, [.int 0, .int 0, .null, .null, .null])))]
  refine cn_aload_n C (gdec dt_X2_init 0 rfl) (i := 0) rfl rfl ?_
  refine cn_obj C kl_X2_3 kim_obj kc_obj (gdec dt_X2_init 1 rfl) (Nat.le_of_ble_eq_true rfl) ⟨by decide, by decide⟩ ?_
  refine cn_aload_n C (gdec dt_X2_init 2 rfl) (i := 0) rfl rfl ?_
  refine cn_bipush C (gdec dt_X2_init 3 rfl) (v := 6) (by decide) ?_
  refine cn_newa (t := 0) (N := 6) (a0 := (6, .inl (fun _ => 0))) C .int rfl rfl (fun _ => Iff.rfl) kac_arr0 (fun _ => rfl) (by decide) (by decide) (by decide) ⟨by decide, by decide⟩ (gdec dt_X2_init 4 rfl) (fun q1 => ?_)
  refine cn_ws (ws2 := [(h0, .inr (2, [.int 0, .int 0, .null, .null, .null])), (q1, .inl (cA 0, 6, .inl (fun _ => 0)))]) rfl ?_
  refine cn_putF C hin kf_X2_9 (fun _ _ _ h => by cases h; rfl) (q0 := 0) rfl rfl rfl (Nat.le_of_ble_eq_true rfl) (ws2 := [(h0, .inr (2, [.int 0, .int 0, .ref q1, .null, .null])), (q1, .inl (cA 0, 6, .inl (fun _ => 0)))]) rfl (gdec dt_X2_init 5 rfl) ?_
  refine cn_aload_n C (gdec dt_X2_init 6 rfl) (i := 0) rfl rfl ?_
  refine cn_bipush C (gdec dt_X2_init 7 rfl) (v := 6) (by decide) ?_
  refine cn_newa (t := 0) (N := 6) (a0 := (6, .inl (fun _ => 0))) C .int rfl rfl (fun _ => Iff.rfl) kac_arr0 (fun _ => rfl) (by decide) (by decide) (by decide) ⟨by decide, by decide⟩ (gdec dt_X2_init 8 rfl) (fun q2 => ?_)
  refine cn_ws (ws2 := [(h0, .inr (2, [.int 0, .int 0, .ref q1, .null, .null])), (q1, .inl (cA 0, 6, .inl (fun _ => 0))), (q2, .inl (cA 0, 6, .inl (fun _ => 0)))]) rfl ?_
  refine cn_putF C hin kf_X2_15 (fun _ _ _ h => by cases h; rfl) (q0 := 0) rfl rfl rfl (Nat.le_of_ble_eq_true rfl) (ws2 := [(h0, .inr (2, [.int 0, .int 0, .ref q1, .ref q2, .null])), (q1, .inl (cA 0, 6, .inl (fun _ => 0))), (q2, .inl (cA 0, 6, .inl (fun _ => 0)))]) rfl (gdec dt_X2_init 9 rfl) ?_
  refine cn_aload_n C (gdec dt_X2_init 10 rfl) (i := 0) rfl rfl ?_
  refine cn_bipush C (gdec dt_X2_init 11 rfl) (v := 6) (by decide) ?_
  refine cn_newa (t := 0) (N := 6) (a0 := (6, .inl (fun _ => 0))) C .int rfl rfl (fun _ => Iff.rfl) kac_arr0 (fun _ => rfl) (by decide) (by decide) (by decide) ⟨by decide, by decide⟩ (gdec dt_X2_init 12 rfl) (fun q3 => ?_)
  refine cn_ws (ws2 := [(h0, .inr (2, [.int 0, .int 0, .ref q1, .ref q2, .null])), (q1, .inl (cA 0, 6, .inl (fun _ => 0))), (q2, .inl (cA 0, 6, .inl (fun _ => 0))), (q3, .inl (cA 0, 6, .inl (fun _ => 0)))]) rfl ?_
  refine cn_putF C hin kf_X2_18 (fun _ _ _ h => by cases h; rfl) (q0 := 0) rfl rfl rfl (Nat.le_of_ble_eq_true rfl) (ws2 := [(h0, .inr (2, [.int 0, .int 0, .ref q1, .ref q2, .ref q3])), (q1, .inl (cA 0, 6, .inl (fun _ => 0))), (q2, .inl (cA 0, 6, .inl (fun _ => 0))), (q3, .inl (cA 0, 6, .inl (fun _ => 0)))]) rfl (gdec dt_X2_init 13 rfl) ?_
  exact cn_vret C hr hlk ⟨q1, q2, q3, rfl⟩ (gdec dt_X2_init 14 rfl)
def PC_X3_init (cA adS : Nat → Nat) (h0 : Nat) : va_W → Prop := fun w1 => ∃ q1 q2 : Nat, w1 = [(h0, .inr (3, [.int 0, .int 0, .int 0, .int 0, .int 0, .int 0, .int 0, .int 0, .ref q1, .ref q2])), (q1, .inl (cA 0, 3, .inl (fun _ => 0))), (q2, .inl (cA 0, 3, .inl (fun _ => 0)))]
def tb_X3_init : List (Nat × Jvm.ClassFile.Instr × Nat) := [(0, .aload_n 0, 1), (1, .invokespecial 3, 3), (4, .aload_n 0, 1), (5, .iconst 0, 1), (6, .putfield 9, 3), (9, .aload_n 0, 1), (10, .iconst 0, 1), (11, .putfield 15, 3), (14, .aload_n 0, 1), (15, .iconst 0, 1), (16, .putfield 18, 3), (19, .aload_n 0, 1), (20, .iconst 0, 1), (21, .putfield 21, 3), (24, .aload_n 0, 1), (25, .iconst 0, 1), (26, .putfield 24, 3), (29, .aload_n 0, 1), (30, .iconst 0, 1), (31, .putfield 27, 3), (34, .aload_n 0, 1), (35, .iconst 0, 1), (36, .putfield 31, 3), (39, .aload_n 0, 1), (40, .iconst 0, 1), (41, .putfield 34, 3), (44, .aload_n 0, 1), (45, .iconst 3, 1), (46, .newarray .int, 2), (48, .putfield 37, 3), (51, .aload_n 0, 1), (52, .iconst 3, 1), (53, .newarray .int, 2), (55, .putfield 41, 3), (58, .return_, 1)]
set_option maxRecDepth 100000 in
theorem dt_X3_init : ∀ q ∈ tb_X3_init, decode cX3_init q.1 = .ok q.2 := by decide +kernel
set_option maxHeartbeats 8000000 in
set_option maxRecDepth 100000 in
theorem cc_X3_init (l : Launch) (D : va_G) (cA adS : Nat → Nat) (h0 : Nat) : cMet l yX3_init cX3_init 1 1 120 2 6 D cA adS h0 [] (.inr (3, [.int 0, .int 0, .int 0, .int 0, .int 0, .int 0, .int 0, .int 0, .null, .null])) (PC_X3_init cA adS h0) := by
  refine c_entry (by decide) rfl (Nat.le_of_ble_eq_true rfl) ?_
  intro p e s m args below meth c sz C hr hlk hin
  show cW p l e { frames := 1, cells := 2, slots := 6, locals := 120 } s m args below meth c D (va_A [(h0, (.inr (3, [.int 0, .int 0, .int 0, .int 0, .int 0, .int 0, .int 0, .int 0, .null, .null])))] sz) 1 0 0 (MQ below (cPost D (va_A [(h0, (.inr (3, [.int 0, .int 0, .int 0, .int 0, .int 0, .int 0, .int 0, .int 0, .null, .null])))] sz) (PC_X3_init cA adS h0)) args s 2 6 (va_A [(h0, (.inr (3, [.int 0, .int 0, .int 0, .int 0, .int 0, .int 0, .int 0, .int 0, .null, .null])))] sz)) 0 [(0, .ref h0)] [] [(h0, (.inr (3, [.int 0, .int 0, .int 0, .int 0, .int 0, .int 0, .int 0, .int 0, .null, .null])))]
  refine cn_aload_n C (gdec dt_X3_init 0 rfl) (i := 0) rfl rfl ?_
  refine cn_obj C kl_X3_3 kim_obj kc_obj (gdec dt_X3_init 1 rfl) (Nat.le_of_ble_eq_true rfl) ⟨by decide, by decide⟩ ?_
  refine cn_aload_n C (gdec dt_X3_init 2 rfl) (i := 0) rfl rfl ?_
  refine cn_iconst C (gdec dt_X3_init 3 rfl) (v := 0) (by decide) ?_
  refine cn_put C kf_X3_9 (q0 := 0) rfl rfl rfl (Nat.le_of_ble_eq_true rfl) (ws2 := [(h0, .inr (3, [.int 0, .int 0, .int 0, .int 0, .int 0, .int 0, .int 0, .int 0, .null, .null]))]) rfl (gdec dt_X3_init 4 rfl) ?_
  refine cn_aload_n C (gdec dt_X3_init 5 rfl) (i := 0) rfl rfl ?_
  refine cn_iconst C (gdec dt_X3_init 6 rfl) (v := 0) (by decide) ?_
  refine cn_put C kf_X3_15 (q0 := 0) rfl rfl rfl (Nat.le_of_ble_eq_true rfl) (ws2 := [(h0, .inr (3, [.int 0, .int 0, .int 0, .int 0, .int 0, .int 0, .int 0, .int 0, .null, .null]))]) rfl (gdec dt_X3_init 7 rfl) ?_
  refine cn_aload_n C (gdec dt_X3_init 8 rfl) (i := 0) rfl rfl ?_
  refine cn_iconst C (gdec dt_X3_init 9 rfl) (v := 0) (by decide) ?_
  refine cn_put C kf_X3_18 (q0 := 0) rfl rfl rfl (Nat.le_of_ble_eq_true rfl) (ws2 := [(h0, .inr (3, [.int 0, .int 0, .int 0, .int 0, .int 0, .int 0, .int 0, .int 0, .null, .null]))]) rfl (gdec dt_X3_init 10 rfl) ?_
  refine cn_aload_n C (gdec dt_X3_init 11 rfl) (i := 0) rfl rfl ?_
  refine cn_iconst C (gdec dt_X3_init 12 rfl) (v := 0) (by decide) ?_
  refine cn_put C kf_X3_21 (q0 := 0) rfl rfl rfl (Nat.le_of_ble_eq_true rfl) (ws2 := [(h0, .inr (3, [.int 0, .int 0, .int 0, .int 0, .int 0, .int 0, .int 0, .int 0, .null, .null]))]) rfl (gdec dt_X3_init 13 rfl) ?_
  refine cn_aload_n C (gdec dt_X3_init 14 rfl) (i := 0) rfl rfl ?_
  refine cn_iconst C (gdec dt_X3_init 15 rfl) (v := 0) (by decide) ?_
  refine cn_put C kf_X3_24 (q0 := 0) rfl rfl rfl (Nat.le_of_ble_eq_true rfl) (ws2 := [(h0, .inr (3, [.int 0, .int 0, .int 0, .int 0, .int 0, .int 0, .int 0, .int 0, .null, .null]))]) rfl (gdec dt_X3_init 16 rfl) ?_
  refine cn_aload_n C (gdec dt_X3_init 17 rfl) (i := 0) rfl rfl ?_
  refine cn_iconst C (gdec dt_X3_init 18 rfl) (v := 0) (by decide) ?_
  refine cn_put C kf_X3_27 (q0 := 0) rfl rfl rfl (Nat.le_of_ble_eq_true rfl) (ws2 := [(h0, .inr (3, [.int 0, .int 0, .int 0, .int 0, .int 0, .int 0, .int 0, .int 0, .null, .null]))]) rfl (gdec dt_X3_init 19 rfl) ?_
  refine cn_aload_n C (gdec dt_X3_init 20 rfl) (i := 0) rfl rfl ?_
  refine cn_iconst C (gdec dt_X3_init 21 rfl) (v := 0) (by decide) ?_
  refine cn_put C kf_X3_31 (q0 := 0) rfl rfl rfl (Nat.le_of_ble_eq_true rfl) (ws2 := [(h0, .inr (3, [.int 0, .int 0, .int 0, .int 0, .int 0, .int 0, .int 0, .int 0, .null, .null]))]) rfl (gdec dt_X3_init 22 rfl) ?_
  refine cn_aload_n C (gdec dt_X3_init 23 rfl) (i := 0) rfl rfl ?_
  refine cn_iconst C (gdec dt_X3_init 24 rfl) (v := 0) (by decide) ?_
  refine cn_put C kf_X3_34 (q0 := 0) rfl rfl rfl (Nat.le_of_ble_eq_true rfl) (ws2 := [(h0, .inr (3, [.int 0, .int 0, .int 0, .int 0, .int 0, .int 0, .int 0, .int 0, .null, .null]))]) rfl (gdec dt_X3_init 25 rfl) ?_
  refine cn_aload_n C (gdec dt_X3_init 26 rfl) (i := 0) rfl rfl ?_
  refine cn_iconst C (gdec dt_X3_init 27 rfl) (v := 3) (by decide) ?_
  refine cn_newa (t := 0) (N := 3) (a0 := (3, .inl (fun _ => 0))) C .int rfl rfl (fun _ => Iff.rfl) kac_arr0 (fun _ => rfl) (by decide) (by decide) (by decide) ⟨by decide, by decide⟩ (gdec dt_X3_init 28 rfl) (fun q1 => ?_)
  refine cn_ws (ws2 := [(h0, .inr (3, [.int 0, .int 0, .int 0, .int 0, .int 0, .int 0, .int 0, .int 0, .null, .null])), (q1, .inl (cA 0, 3, .inl (fun _ => 0)))]) rfl ?_
  refine cn_putF C hin kf_X3_37 (fun _ _ _ h => by cases h; rfl) (q0 := 0) rfl rfl rfl (Nat.le_of_ble_eq_true rfl) (ws2 := [(h0, .inr (3, [.int 0, .int 0, .int 0, .int 0, .int 0, .int 0, .int 0, .int 0, .ref q1, .null])), (q1, .inl (cA 0, 3, .inl (fun _ => 0)))]) rfl (gdec dt_X3_init 29 rfl) ?_
  refine cn_aload_n C (gdec dt_X3_init 30 rfl) (i := 0) rfl rfl ?_
  refine cn_iconst C (gdec dt_X3_init 31 rfl) (v := 3) (by decide) ?_
  refine cn_newa (t := 0) (N := 3) (a0 := (3, .inl (fun _ => 0))) C .int rfl rfl (fun _ => Iff.rfl) kac_arr0 (fun _ => rfl) (by decide) (by decide) (by decide) ⟨by decide, by decide⟩ (gdec dt_X3_init 32 rfl) (fun q2 => ?_)
  refine cn_ws (ws2 := [(h0, .inr (3, [.int 0, .int 0, .int 0, .int 0, .int 0, .int 0, .int 0, .int 0, .ref q1, .null])), (q1, .inl (cA 0, 3, .inl (fun _ => 0))), (q2, .inl (cA 0, 3, .inl (fun _ => 0)))]) rfl ?_
  refine cn_putF C hin kf_X3_41 (fun _ _ _ h => by cases h; rfl) (q0 := 0) rfl rfl rfl (Nat.le_of_ble_eq_true rfl) (ws2 := [(h0, .inr (3, [.int 0, .int 0, .int 0, .int 0, .int 0, .int 0, .int 0, .int 0, .ref q1, .ref q2])), (q1, .inl (cA 0, 3, .inl (fun _ => 0))), (q2, .inl (cA 0, 3, .inl (fun _ => 0)))]) rfl (gdec dt_X3_init 33 rfl) ?_
  exact cn_vret C hr hlk ⟨q1, q2, rfl⟩ (gdec dt_X3_init 34 rfl)
def PC_X7_init (cA adS : Nat → Nat) (h0 : Nat) : va_W → Prop := fun w1 => ∃ q1 : Nat, w1 = [(h0, .inr (7, [.ref q1])), (q1, .inl (cA 0, 128, .inl (fun _ => 0)))]
def tb_X7_init : List (Nat × Jvm.ClassFile.Instr × Nat) := [(0, .aload_n 0, 1), (1, .invokespecial 3, 3), (4, .aload_n 0, 1), (5, .sipush 128, 3), (8, .newarray .int, 2), (10, .putfield 9, 3), (13, .return_, 1)]
set_option maxRecDepth 100000 in
theorem dt_X7_init : ∀ q ∈ tb_X7_init, decode cX7_init q.1 = .ok q.2 := by decide +kernel
set_option maxHeartbeats 8000000 in
set_option maxRecDepth 100000 in
theorem cc_X7_init (l : Launch) (D : va_G) (cA adS : Nat → Nat) (h0 : Nat) : cMet l yX7_init cX7_init 1 1 120 1 128 D cA adS h0 [] (.inr (7, [.null])) (PC_X7_init cA adS h0) := by
  refine c_entry (by decide) rfl (Nat.le_of_ble_eq_true rfl) ?_
  intro p e s m args below meth c sz C hr hlk hin
  show cW p l e { frames := 1, cells := 1, slots := 128, locals := 120 } s m args below meth c D (va_A [(h0, (.inr (7, [.null])))] sz) 1 0 0 (MQ below (cPost D (va_A [(h0, (.inr (7, [.null])))] sz) (PC_X7_init cA adS h0)) args s 1 128 (va_A [(h0, (.inr (7, [.null])))] sz)) 0 [(0, .ref h0)] [] [(h0, (.inr (7, [.null])))]
  refine cn_aload_n C (gdec dt_X7_init 0 rfl) (i := 0) rfl rfl ?_
  refine cn_obj C kl_X7_3 kim_obj kc_obj (gdec dt_X7_init 1 rfl) (Nat.le_of_ble_eq_true rfl) ⟨by decide, by decide⟩ ?_
  refine cn_aload_n C (gdec dt_X7_init 2 rfl) (i := 0) rfl rfl ?_
  refine cn_sipush C (gdec dt_X7_init 3 rfl) (v := 128) (by decide) ?_
  refine cn_newa (t := 0) (N := 128) (a0 := (128, .inl (fun _ => 0))) C .int rfl rfl (fun _ => Iff.rfl) kac_arr0 (fun _ => rfl) (by decide) (by decide) (by decide) ⟨by decide, by decide⟩ (gdec dt_X7_init 4 rfl) (fun q1 => ?_)
  refine cn_ws (ws2 := [(h0, .inr (7, [.null])), (q1, .inl (cA 0, 128, .inl (fun _ => 0)))]) rfl ?_
  refine cn_putF C hin kf_X7_9 (fun _ _ _ h => by cases h; rfl) (q0 := 0) rfl rfl rfl (Nat.le_of_ble_eq_true rfl) (ws2 := [(h0, .inr (7, [.ref q1])), (q1, .inl (cA 0, 128, .inl (fun _ => 0)))]) rfl (gdec dt_X7_init 5 rfl) ?_
  exact cn_vret C hr hlk ⟨q1, rfl⟩ (gdec dt_X7_init 6 rfl)
def PC_X4_init (cA adS : Nat → Nat) (h0 : Nat) : va_W → Prop := fun w1 => ∃ q1 q2 q3 q4 q5 q6 q7 q8 q9 q10 q11 q12 q13 q14 q15 q16 q17 q18 q19 q20 q21 : Nat, w1 = [(h0, .inr (4, [.ref q1, .ref q14])), (q1, .inr (0, [.int 4, .int 100, .int 0, .int 0, .int 0, .int 0, .int 0, .ref q2, .ref q3, .ref q4, .ref q5, .ref q6, .ref q7, .ref q8, .ref q9, .ref q10, .ref q11, .ref q12, .ref q13])), (q2, .inl (cA 0, 7, .inl (fun _ => 0))), (q3, .inl (cA 0, 5, .inl (fun _ => 0))), (q4, .inl (cA 0, 5, .inl (fun _ => 0))), (q5, .inl (cA 3, 6, .inr (.inl (fun _ => 0)))), (q6, .inl (cA 0, 6, .inl (fun _ => 0))), (q7, .inl (cA 0, 6, .inl (fun _ => 0))), (q8, .inl (cA 0, 6, .inl (fun _ => 0))), (q9, .inl (cA 0, 6, .inl (fun _ => 0))), (q10, .inl (cA 0, 6, .inl (fun _ => 0))), (q11, .inl (cA 0, 6, .inl (fun _ => 0))), (q12, .inl (cA 0, 8, .inl (fun _ => 0))), (q13, .inl (cA 0, 8, .inl (fun _ => 0))), (q14, .inr (5, [.int 0, .int 0, .ref q15, .ref q16, .ref q17, .ref q18, .ref q19, .ref q20, .ref q21])), (q15, .inl (cA 0, 30, .inl (fun _ => 0))), (q16, .inl (cA 0, 30, .inl (fun _ => 0))), (q17, .inl (cA 0, 30, .inl (fun _ => 0))), (q18, .inl (cA 0, 30, .inl (fun _ => 0))), (q19, .inl (cA 0, 30, .inl (fun _ => 0))), (q20, .inl (cA 0, 30, .inl (fun _ => 0))), (q21, .inl (cA 0, 30, .inl (fun _ => 0)))]
def tb_X4_init : List (Nat × Jvm.ClassFile.Instr × Nat) := [(0, .aload_n 0, 1), (1, .invokespecial 1, 3), (4, .aload_n 0, 1), (5, .new 7, 3), (8, .dup, 1), (9, .invokespecial 9, 3), (12, .putfield 10, 3), (15, .aload_n 0, 1), (16, .new 16, 3), (19, .dup, 1), (20, .invokespecial 18, 3), (23, .putfield 19, 3), (26, .return_, 1)]
set_option maxRecDepth 100000 in
theorem dt_X4_init : ∀ q ∈ tb_X4_init, decode cX4_init q.1 = .ok q.2 := by decide +kernel
set_option maxHeartbeats 8000000 in
set_option maxRecDepth 100000 in
theorem cc_X4_init (l : Launch) (D : va_G) (cA adS : Nat → Nat) (h0 : Nat) : cMet l yX4_init cX4_init 1 3 160 21 313 D cA adS h0 [] (.inr (4, [.null, .null])) (PC_X4_init cA adS h0) := by
  refine c_entry (by decide) rfl (Nat.le_of_ble_eq_true rfl) ?_
  intro p e s m args below meth c sz C hr hlk hin
  show cW p l e { frames := 3, cells := 21, slots := 313, locals := 160 } s m args below meth c D (va_A [(h0, (.inr (4, [.null, .null])))] sz) 1 0 0 (MQ below (cPost D (va_A [(h0, (.inr (4, [.null, .null])))] sz) (PC_X4_init cA adS h0)) args s 21 313 (va_A [(h0, (.inr (4, [.null, .null])))] sz)) 0 [(0, .ref h0)] [] [(h0, (.inr (4, [.null, .null])))]
  refine cn_aload_n C (gdec dt_X4_init 0 rfl) (i := 0) rfl rfl ?_
  refine cn_obj C kl_X4_1 kim_obj kc_obj (gdec dt_X4_init 1 rfl) (Nat.le_of_ble_eq_true rfl) ⟨by decide, by decide⟩ ?_
  refine cn_aload_n C (gdec dt_X4_init 2 rfl) (i := 0) rfl rfl ?_
  refine cn_new (ci := 0) (fs := [.int 0, .int 0, .int 0, .int 0, .int 0, .int 0, .int 0, .null, .null, .null, .null, .null, .null, .null, .null, .null, .null, .null, .null]) C rfl inw_X0 tyX0_ok kcl_X4_7 kin_X0 ki_X0 df_X0 ⟨by decide, by decide⟩ (gdec dt_X4_init 3 rfl) (fun q1 => ?_)
  refine cn_ws (ws2 := [(h0, .inr (4, [.null, .null])), (q1, .inr (0, [.int 0, .int 0, .int 0, .int 0, .int 0, .int 0, .int 0, .null, .null, .null, .null, .null, .null, .null, .null, .null, .null, .null, .null]))]) rfl ?_
  refine cn_dup C (gdec dt_X4_init 4 rfl) rfl ?_
  refine cn_inv (wr := [(h0, .inr (4, [.null, .null]))]) [] [.ref q1, .ref h0] [0] C (cc_X0_init l D cA adS q1) (q0 := 1) rfl rfl (by decide) (by decide) kT_X0_init kl_X4_9 kim_X0_init rfl rfl rfl ⟨by decide, by decide⟩ ⟨by decide, by decide⟩ (Nat.le_of_ble_eq_true rfl) (gdec dt_X4_init 5 rfl) ?_
  rintro _ ⟨q2, q3, q4, q5, q6, q7, q8, q9, q10, q11, q12, q13, rfl⟩
  refine cn_ws (ws2 := [(h0, .inr (4, [.null, .null])), (q1, .inr (0, [.int 4, .int 100, .int 0, .int 0, .int 0, .int 0, .int 0, .ref q2, .ref q3, .ref q4, .ref q5, .ref q6, .ref q7, .ref q8, .ref q9, .ref q10, .ref q11, .ref q12, .ref q13])), (q2, .inl (cA 0, 7, .inl (fun _ => 0))), (q3, .inl (cA 0, 5, .inl (fun _ => 0))), (q4, .inl (cA 0, 5, .inl (fun _ => 0))), (q5, .inl (cA 3, 6, .inr (.inl (fun _ => 0)))), (q6, .inl (cA 0, 6, .inl (fun _ => 0))), (q7, .inl (cA 0, 6, .inl (fun _ => 0))), (q8, .inl (cA 0, 6, .inl (fun _ => 0))), (q9, .inl (cA 0, 6, .inl (fun _ => 0))), (q10, .inl (cA 0, 6, .inl (fun _ => 0))), (q11, .inl (cA 0, 6, .inl (fun _ => 0))), (q12, .inl (cA 0, 8, .inl (fun _ => 0))), (q13, .inl (cA 0, 8, .inl (fun _ => 0)))]) rfl ?_
  refine cn_putF C hin kf_X4_10 (fun _ _ _ h => by cases h; rfl) (q0 := 0) rfl rfl rfl (Nat.le_of_ble_eq_true rfl) (ws2 := [(h0, .inr (4, [.ref q1, .null])), (q1, .inr (0, [.int 4, .int 100, .int 0, .int 0, .int 0, .int 0, .int 0, .ref q2, .ref q3, .ref q4, .ref q5, .ref q6, .ref q7, .ref q8, .ref q9, .ref q10, .ref q11, .ref q12, .ref q13])), (q2, .inl (cA 0, 7, .inl (fun _ => 0))), (q3, .inl (cA 0, 5, .inl (fun _ => 0))), (q4, .inl (cA 0, 5, .inl (fun _ => 0))), (q5, .inl (cA 3, 6, .inr (.inl (fun _ => 0)))), (q6, .inl (cA 0, 6, .inl (fun _ => 0))), (q7, .inl (cA 0, 6, .inl (fun _ => 0))), (q8, .inl (cA 0, 6, .inl (fun _ => 0))), (q9, .inl (cA 0, 6, .inl (fun _ => 0))), (q10, .inl (cA 0, 6, .inl (fun _ => 0))), (q11, .inl (cA 0, 6, .inl (fun _ => 0))), (q12, .inl (cA 0, 8, .inl (fun _ => 0))), (q13, .inl (cA 0, 8, .inl (fun _ => 0)))]) rfl (gdec dt_X4_init 6 rfl) ?_
  refine cn_aload_n C (gdec dt_X4_init 7 rfl) (i := 0) rfl rfl ?_
  refine cn_new (ci := 5) (fs := [.int 0, .int 0, .null, .null, .null, .null, .null, .null, .null]) C rfl inw_X5 tyX5_ok kcl_X4_16 kin_X5 ki_X5 df_X5 ⟨by decide, by decide⟩ (gdec dt_X4_init 8 rfl) (fun q14 => ?_)
  refine cn_ws (ws2 := [(h0, .inr (4, [.ref q1, .null])), (q1, .inr (0, [.int 4, .int 100, .int 0, .int 0, .int 0, .int 0, .int 0, .ref q2, .ref q3, .ref q4, .ref q5, .ref q6, .ref q7, .ref q8, .ref q9, .ref q10, .ref q11, .ref q12, .ref q13])), (q2, .inl (cA 0, 7, .inl (fun _ => 0))), (q3, .inl (cA 0, 5, .inl (fun _ => 0))), (q4, .inl (cA 0, 5, .inl (fun _ => 0))), (q5, .inl (cA 3, 6, .inr (.inl (fun _ => 0)))), (q6, .inl (cA 0, 6, .inl (fun _ => 0))), (q7, .inl (cA 0, 6, .inl (fun _ => 0))), (q8, .inl (cA 0, 6, .inl (fun _ => 0))), (q9, .inl (cA 0, 6, .inl (fun _ => 0))), (q10, .inl (cA 0, 6, .inl (fun _ => 0))), (q11, .inl (cA 0, 6, .inl (fun _ => 0))), (q12, .inl (cA 0, 8, .inl (fun _ => 0))), (q13, .inl (cA 0, 8, .inl (fun _ => 0))), (q14, .inr (5, [.int 0, .int 0, .null, .null, .null, .null, .null, .null, .null]))]) rfl ?_
  refine cn_dup C (gdec dt_X4_init 9 rfl) rfl ?_
  refine cn_invN (wr := [(h0, .inr (4, [.ref q1, .null])), (q1, .inr (0, [.int 4, .int 100, .int 0, .int 0, .int 0, .int 0, .int 0, .ref q2, .ref q3, .ref q4, .ref q5, .ref q6, .ref q7, .ref q8, .ref q9, .ref q10, .ref q11, .ref q12, .ref q13])), (q2, .inl (cA 0, 7, .inl (fun _ => 0))), (q3, .inl (cA 0, 5, .inl (fun _ => 0))), (q4, .inl (cA 0, 5, .inl (fun _ => 0))), (q5, .inl (cA 3, 6, .inr (.inl (fun _ => 0)))), (q6, .inl (cA 0, 6, .inl (fun _ => 0))), (q7, .inl (cA 0, 6, .inl (fun _ => 0))), (q8, .inl (cA 0, 6, .inl (fun _ => 0))), (q9, .inl (cA 0, 6, .inl (fun _ => 0))), (q10, .inl (cA 0, 6, .inl (fun _ => 0))), (q11, .inl (cA 0, 6, .inl (fun _ => 0))), (q12, .inl (cA 0, 8, .inl (fun _ => 0))), (q13, .inl (cA 0, 8, .inl (fun _ => 0)))]) [] [.ref q14, .ref h0] [0, 1, 2, 3, 4, 5, 6, 7, 8, 9, 10, 11, 12, 13] C (cc_X5_init l D cA adS q14) (q0 := 14) rfl rfl (by decide) (by decide) kT_X5_init (List.mem_of_getElem? (i := 6) rfl) kim_X5_init rfl rfl rfl ⟨by decide, by decide⟩ ⟨by decide, by decide⟩ (Nat.le_of_ble_eq_true rfl) (gdec dt_X4_init 10 rfl) ?_
  rintro _ ⟨q15, q16, q17, q18, q19, q20, q21, rfl⟩
  refine cn_ws (ws2 := [(h0, .inr (4, [.ref q1, .null])), (q1, .inr (0, [.int 4, .int 100, .int 0, .int 0, .int 0, .int 0, .int 0, .ref q2, .ref q3, .ref q4, .ref q5, .ref q6, .ref q7, .ref q8, .ref q9, .ref q10, .ref q11, .ref q12, .ref q13])), (q2, .inl (cA 0, 7, .inl (fun _ => 0))), (q3, .inl (cA 0, 5, .inl (fun _ => 0))), (q4, .inl (cA 0, 5, .inl (fun _ => 0))), (q5, .inl (cA 3, 6, .inr (.inl (fun _ => 0)))), (q6, .inl (cA 0, 6, .inl (fun _ => 0))), (q7, .inl (cA 0, 6, .inl (fun _ => 0))), (q8, .inl (cA 0, 6, .inl (fun _ => 0))), (q9, .inl (cA 0, 6, .inl (fun _ => 0))), (q10, .inl (cA 0, 6, .inl (fun _ => 0))), (q11, .inl (cA 0, 6, .inl (fun _ => 0))), (q12, .inl (cA 0, 8, .inl (fun _ => 0))), (q13, .inl (cA 0, 8, .inl (fun _ => 0))), (q14, .inr (5, [.int 0, .int 0, .ref q15, .ref q16, .ref q17, .ref q18, .ref q19, .ref q20, .ref q21])), (q15, .inl (cA 0, 30, .inl (fun _ => 0))), (q16, .inl (cA 0, 30, .inl (fun _ => 0))), (q17, .inl (cA 0, 30, .inl (fun _ => 0))), (q18, .inl (cA 0, 30, .inl (fun _ => 0))), (q19, .inl (cA 0, 30, .inl (fun _ => 0))), (q20, .inl (cA 0, 30, .inl (fun _ => 0))), (q21, .inl (cA 0, 30, .inl (fun _ => 0)))]) rfl ?_
  refine cn_putF C hin kf_X4_19 (fun _ _ _ h => by cases h; rfl) (q0 := 0) rfl rfl rfl (Nat.le_of_ble_eq_true rfl) (ws2 := [(h0, .inr (4, [.ref q1, .ref q14])), (q1, .inr (0, [.int 4, .int 100, .int 0, .int 0, .int 0, .int 0, .int 0, .ref q2, .ref q3, .ref q4, .ref q5, .ref q6, .ref q7, .ref q8, .ref q9, .ref q10, .ref q11, .ref q12, .ref q13])), (q2, .inl (cA 0, 7, .inl (fun _ => 0))), (q3, .inl (cA 0, 5, .inl (fun _ => 0))), (q4, .inl (cA 0, 5, .inl (fun _ => 0))), (q5, .inl (cA 3, 6, .inr (.inl (fun _ => 0)))), (q6, .inl (cA 0, 6, .inl (fun _ => 0))), (q7, .inl (cA 0, 6, .inl (fun _ => 0))), (q8, .inl (cA 0, 6, .inl (fun _ => 0))), (q9, .inl (cA 0, 6, .inl (fun _ => 0))), (q10, .inl (cA 0, 6, .inl (fun _ => 0))), (q11, .inl (cA 0, 6, .inl (fun _ => 0))), (q12, .inl (cA 0, 8, .inl (fun _ => 0))), (q13, .inl (cA 0, 8, .inl (fun _ => 0))), (q14, .inr (5, [.int 0, .int 0, .ref q15, .ref q16, .ref q17, .ref q18, .ref q19, .ref q20, .ref q21])), (q15, .inl (cA 0, 30, .inl (fun _ => 0))), (q16, .inl (cA 0, 30, .inl (fun _ => 0))), (q17, .inl (cA 0, 30, .inl (fun _ => 0))), (q18, .inl (cA 0, 30, .inl (fun _ => 0))), (q19, .inl (cA 0, 30, .inl (fun _ => 0))), (q20, .inl (cA 0, 30, .inl (fun _ => 0))), (q21, .inl (cA 0, 30, .inl (fun _ => 0)))]) rfl (gdec dt_X4_init 11 rfl) ?_
  exact cn_vret C hr hlk ⟨q1, q2, q3, q4, q5, q6, q7, q8, q9, q10, q11, q12, q13, q14, q15, q16, q17, q18, q19, q20, q21, rfl⟩ (gdec dt_X4_init 12 rfl)
