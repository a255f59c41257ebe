/-! length() and charAt(i) of the two constant texts: String's own methods, walked. -/
def txs (i : Nat) : List Int32 := ([txW, txK] : List (List Int32)).getD i []
def txn (i : Nat) : Nat := ([140, 141] : List Nat).getD i 0
section GSTR
variable {p : Program} {l : Launch} {e : Env} {R : Room} {s : State} {m : MethodId} {args : Array Value} {below : List Frame} {meth : Method} {c : Code} {D : va_G} {cA ad : Nat → Nat} {sh : GS} {nL kc ks : Nat} {Q : State → Prop} {cc : ByteArray} {ret : Option FieldType} {own : String} {pc : Nat} {lo : List (Nat × Value)} {w : GW} {st : List Value}
/-- a call of String's own method -/
theorem g_invStr {idx maxL n i fr lm : Nat} {y : MethodName} {cy : ByteArray} {rty : Option FieldType} {r : Option Value} (As : List Value) (C : gC p c cc meth m s args nL ret own D cA ad sh) (hi2 : i < 2)
    (hM : gMet l y cy maxL rty fr lm D cA (gad ad []) shE (.ref (5000 + i) :: As) (gsub w []) r (gsub w [])) (hup : As.map (gup []) = As) (hT : gT y cy maxL rty n) (hy : y.cls = "java/lang/String") (hl : Cond.methodLink own idx y ∈ TBL) (hi : Cond.instanceMethod y ∈ TBL) (hse : Cond.selects y.cls y y ∈ TBL) (hn : As.length = n) (rest : List Value) (hst : st = As.reverse ++ .ref (5000 + i) :: rest)
    (hR : fr + 1 ≤ R.frames ∧ 8 + (maxL + 11) + lm ≤ R.locals) (hkk : kc ≤ R.cells ∧ ks ≤ R.slots) (hcat : (rest.map fun v => v.category).sum ≤ 8) (hd : decode cc pc = .ok (.invokevirtual idx, 3)) (hrv : r.toList.map (gconc ad) = r.toList)
    {st2 : List Value} (h2 : r.toList ++ rest = st2) (k : gW p l e R s m args below meth c D cA ad sh nL kc ks Q (pc + 3) lo st2 w) : gW p l e R s m args below meth c D cA ad sh nL kc ks Q pc lo st w := by
  intro H locs ls hP hS hlv
  subst hst
  subst h2
  have hemb : gEmb sh [] shE = true := rfl
  have hav : (Value.ref (5000 + i) :: As).map (gconc (gad ad [])) = Value.ref (ad (5000 + i)) :: As.map (gconc ad) := by
    rw [gmap_up, List.map_cons, hup]
    rfl
  unfold gMet at hM
  rw [hav] at hM
  obtain ⟨hB1, hB2⟩ := gPre_sub C hP hS hemb (gad_str (Nat.zero_le _)) (Nat.zero_le _) (Value.ref (ad (5000 + i)) :: As.map (gconc ad))
  have hpre : PreV s H y.cls (ad (5000 + i)) (va_Pc (Value.ref (ad (5000 + i)) :: As.map (gconc ad)) (gPre D cA (gad ad []) shE (gsub w []))) (As.map (gconc ad)) := ⟨hB1, by rw [hy]; exact vk_recv (adK := fun i => ad (5000 + i)) (i := i) C.2.2.2.2.2.2.2.2.1.1 hi2 hS, hB2⟩
  have k2 : gW p l e R s m args below meth c D cA ad sh nL kc ks Q (pc + 3) lo (r.toList ++ rest) (gput w [] (gsub w [])) := by rw [gput_sub]; exact k
  refine g_after C hP hS hlv hemb (a := (Value.ref (ad (5000 + i)) :: As.map (gconc ad)).toArray) (va_runV (C := y.cls) (n := n) (bytes := cy) (maxL := maxL) (ret := rty) (b := ad (5000 + i)) (As := As.map (gconc ad)) (rest := rest.map (gconc ad)) (gFix C) hM ⟨gB C hT hl hR, C.2.2.2.2.2.2.1 _ hi, C.2.2.2.2.2.2.1 _ hse⟩ hpre rfl (by rw [List.length_map]; exact hn) hlv.1 ?_ ?_ hd hkk) hrv k2
  · show List.map (gconc ad) (As.reverse ++ .ref (5000 + i) :: rest) = _
    rw [List.map_append, List.map_reverse]
    rfl
  · refine lv_room ?_
    exact gcat hcat
theorem g_getsC {idx : Nat} (C : gC p c cc meth m s args nL ret own D cA ad sh) (hl : Cond.fieldLink own idx "java/lang/String" "COMPACT_STRINGS" "Z" ∈ TBL) (hd : decode cc pc = .ok (.getstatic idx, 3)) (k : gW p l e R s m args below meth c D cA ad sh nL kc ks Q (pc + 3) lo (.int 1 :: st) w) : gW p l e R s m args below meth c D cA ad sh nL kc ks Q pc lo st w :=
  fun H locs ls hP hS hlv => va_gets C.1 C.2.1 C.2.2.2.2.2.2.2.2.1.2.1 hS C.2.2.2.2.2.1 (C.2.2.2.2.2.2.1 _ hl) (fun _ h => h) hd (k H locs ls hP hS hlv)
theorem g_getsP {idx : Nat} (C : gC p c cc meth m s args nL ret own D cA ad sh) (hl : Cond.fieldLink own idx "jdk/internal/util/Preconditions" "SIOOBE_FORMATTER" "Ljava/util/function/BiFunction;" ∈ TBL) (hd : decode cc pc = .ok (.getstatic idx, 3)) (k : ∀ v : Value, (v = .null ∨ v = .ref 5200) → gW p l e R s m args below meth c D cA ad sh nL kc ks Q (pc + 3) lo (v :: st) w) : gW p l e R s m args below meth c D cA ad sh nL kc ks Q pc lo st w := by
  intro H locs ls hP hS hlv
  rcases C.2.2.2.2.2.2.2.2.1.2.2.1 with h | h
  · exact va_gets C.1 C.2.1 h hS C.2.2.2.2.2.1 (C.2.2.2.2.2.2.1 _ hl) (fun _ h => h) hd (k .null (Or.inl rfl) H locs ls hP hS hlv)
  · exact va_gets C.1 C.2.1 h hS C.2.2.2.2.2.1 (C.2.2.2.2.2.2.1 _ hl) (fun _ h => h) hd (k (.ref 5200) (Or.inr rfl) H locs ls hP hS hlv)
theorem g_strv {idx i : Nat} (C : gC p c cc meth m s args nL ret own D cA ad sh) (hi : i < 2) (hl : Cond.fieldLink own idx "java/lang/String" "value" "[B" ∈ TBL) (hd : decode cc pc = .ok (.getfield idx, 3)) (k : gW p l e R s m args below meth c D cA ad sh nL kc ks Q (pc + 3) lo (.ref (5100 + i) :: st) w) : gW p l e R s m args below meth c D cA ad sh nL kc ks Q pc lo (.ref (5000 + i) :: st) w :=
  fun H locs ls hP hS hlv => vk_getf C.1 C.2.1 (C.2.2.2.2.2.2.2.2.1.1.1 i hi).2.2.1 hS C.2.2.2.2.2.1 (C.2.2.2.2.2.2.1 _ hl) (fun _ h => h) hd (k H locs ls hP hS hlv)
theorem g_strc {idx i : Nat} (C : gC p c cc meth m s args nL ret own D cA ad sh) (hi : i < 2) (hl : Cond.fieldLink own idx "java/lang/String" "coder" "B" ∈ TBL) (hd : decode cc pc = .ok (.getfield idx, 3)) (k : gW p l e R s m args below meth c D cA ad sh nL kc ks Q (pc + 3) lo (.int 0 :: st) w) : gW p l e R s m args below meth c D cA ad sh nL kc ks Q pc lo (.ref (5000 + i) :: st) w :=
  fun H locs ls hP hS hlv => vk_getf C.1 C.2.1 (C.2.2.2.2.2.2.2.2.1.1.1 i hi).2.1 hS C.2.2.2.2.2.1 (C.2.2.2.2.2.2.1 _ hl) (fun _ h => h) hd (k H locs ls hP hS hlv)
theorem g_stral {i : Nat} (C : gC p c cc meth m s args nL ret own D cA ad sh) (hi : i < 2) (hd : decode cc pc = .ok (.arraylength, 1)) (k : gW p l e R s m args below meth c D cA ad sh nL kc ks Q (pc + 1) lo (.int (nI (txn i)) :: st) w) : gW p l e R s m args below meth c D cA ad sh nL kc ks Q pc lo (.ref (5100 + i) :: st) w :=
  fun H locs ls hP hS hlv => va_tlen C.1 C.2.1 (C.2.2.2.2.2.2.2.2.1.1.1 i hi).2.2.2 hS rfl hd (k H locs ls hP hS hlv)
theorem g_strba {i : Nat} {x : Int32} (C : gC p c cc meth m s args nL ret own D cA ad sh) (hi : i < 2) (hx : vp_in x (txn i)) (hd : decode cc pc = .ok (.baload, 1)) (k : gW p l e R s m args below meth c D cA ad sh nL kc ks Q (pc + 1) lo (.int ((txs i).getD x.toNatClampNeg 0) :: st) w) : gW p l e R s m args below meth c D cA ad sh nL kc ks Q pc lo (.int x :: .ref (5100 + i) :: st) w :=
  fun H locs ls hP hS hlv => va_tb C.1 C.2.1 (C.2.2.2.2.2.2.2.2.1.1.1 i hi).2.2.2 hS hx rfl hd (k H locs ls hP hS hlv)
theorem g_i2c {x : Int32} (C : gC p c cc meth m s args nL ret own D cA ad sh) (hd : decode cc pc = .ok (.i2c, 1)) (k : gW p l e R s m args below meth c D cA ad sh nL kc ks Q (pc + 1) lo (.int (x.toUInt32 % 65536).toInt32 :: st) w) : gW p l e R s m args below meth c D cA ad sh nL kc ks Q pc lo (.int x :: st) w :=
  fun H locs ls hP hS hlv => lv_i2c C.1 C.2.1 hd rfl (k H locs ls hP hS hlv)
theorem g_nret {ty : FieldType} {x : Int32} {r : Option Value} (C : gC p c cc meth m s args nL (some ty) own D cA ad sh) (hn : narrow ty (.int x) = .int x) (hr : r = some (.int x)) (hd : decode cc pc = .ok (.ireturn, 1)) : gW p l e R s m args below meth c D cA ad sh nL 0 0 (MQ below (gPost D cA ad sh r w) args s 0 0 (gA ad sh.length)) pc lo [.int x] w := by
  subst hr
  exact fun H locs ls hP hS hl => W.zret C.1 C.2.1 C.2.2.2.1 hn (fun t ht hW => ⟨rfl, by rw [ht]; exact hP, hS.F ht⟩) hS.2.2 hd C.2.2.2.2.1
end GSTR
theorem jf38 : Cond.fieldLink RJ0 38 "java/lang/String" "COMPACT_STRINGS" "Z" ∈ TBL := TBL_of 749 (by decide +kernel) (by decide +kernel)
theorem jf1053 : Cond.fieldLink RJ0 1053 "jdk/internal/util/Preconditions" "SIOOBE_FORMATTER" "Ljava/util/function/BiFunction;" ∈ TBL := TBL_of 765 (by decide +kernel) (by decide +kernel)
theorem jf9 : Cond.fieldLink RJ0 9 "java/lang/String" "value" "[B" ∈ TBL := TBL_of 2241 (by decide +kernel) (by decide +kernel)
theorem jf15 : Cond.fieldLink RJ0 15 "java/lang/String" "coder" "B" ∈ TBL := TBL_of 2242 (by decide +kernel) (by decide +kernel)
theorem jc_J0_coder_7d493 : Cond.code yJ0_coder_7d493 cJ0_coder_7d493 1 (some .byte) ∈ TBL := TBL_of 748 (by decide +kernel) (by decide +kernel)
theorem jm_J0_coder_7d493 : Cond.instanceMethod yJ0_coder_7d493 ∈ TBL := TBL_of 746 (by decide +kernel) (by decide +kernel)
theorem jse_J0_coder_7d493 : Cond.selects yJ0_coder_7d493.cls yJ0_coder_7d493 yJ0_coder_7d493 ∈ TBL := TBL_of 747 (by decide +kernel) (by decide +kernel)
theorem ji_J0 : Cond.initialized RJ0 ∈ TBL := TBL_of 154 (by decide +kernel) (by decide +kernel)
theorem jT_J0_coder_7d493 : gT yJ0_coder_7d493 cJ0_coder_7d493 1 (some .byte) 0 := ⟨ji_J0, jc_J0_coder_7d493, by decide +kernel, by decide +kernel⟩
def tb_J0_coder_7d493 : List (Nat × Jvm.ClassFile.Instr × Nat) := [(0, .getstatic 38, 3), (3, .ifCond .eq 10, 3), (6, .aload_n 0, 1), (7, .getfield 15, 3), (10, .goto 4, 3), (13, .iconst 1, 1), (14, .ireturn, 1)]
theorem dt_J0_coder_7d493 : ∀ q ∈ tb_J0_coder_7d493, decode cJ0_coder_7d493 q.1 = .ok q.2 := by decide +kernel
theorem jc_J0_isLatin1_aae02 : Cond.code yJ0_isLatin1_aae02 cJ0_isLatin1_aae02 1 (some .boolean) ∈ TBL := TBL_of 758 (by decide +kernel) (by decide +kernel)
theorem jm_J0_isLatin1_aae02 : Cond.instanceMethod yJ0_isLatin1_aae02 ∈ TBL := TBL_of 756 (by decide +kernel) (by decide +kernel)
theorem jse_J0_isLatin1_aae02 : Cond.selects yJ0_isLatin1_aae02.cls yJ0_isLatin1_aae02 yJ0_isLatin1_aae02 ∈ TBL := TBL_of 757 (by decide +kernel) (by decide +kernel)
theorem jT_J0_isLatin1_aae02 : gT yJ0_isLatin1_aae02 cJ0_isLatin1_aae02 1 (some .boolean) 0 := ⟨ji_J0, jc_J0_isLatin1_aae02, by decide +kernel, by decide +kernel⟩
def tb_J0_isLatin1_aae02 : List (Nat × Jvm.ClassFile.Instr × Nat) := [(0, .getstatic 38, 3), (3, .ifCond .eq 14, 3), (6, .aload_n 0, 1), (7, .getfield 15, 3), (10, .ifCond .ne 7, 3), (13, .iconst 1, 1), (14, .goto 4, 3), (17, .iconst 0, 1), (18, .ireturn, 1)]
theorem dt_J0_isLatin1_aae02 : ∀ q ∈ tb_J0_isLatin1_aae02, decode cJ0_isLatin1_aae02 q.1 = .ok q.2 := by decide +kernel
theorem jc_J0_length_8abf5 : Cond.code yJ0_length_8abf5 cJ0_length_8abf5 1 (some .int) ∈ TBL := TBL_of 744 (by decide +kernel) (by decide +kernel)
theorem jm_J0_length_8abf5 : Cond.instanceMethod yJ0_length_8abf5 ∈ TBL := TBL_of 742 (by decide +kernel) (by decide +kernel)
theorem jse_J0_length_8abf5 : Cond.selects yJ0_length_8abf5.cls yJ0_length_8abf5 yJ0_length_8abf5 ∈ TBL := TBL_of 743 (by decide +kernel) (by decide +kernel)
theorem jT_J0_length_8abf5 : gT yJ0_length_8abf5 cJ0_length_8abf5 1 (some .int) 0 := ⟨ji_J0, jc_J0_length_8abf5, by decide +kernel, by decide +kernel⟩
def tb_J0_length_8abf5 : List (Nat × Jvm.ClassFile.Instr × Nat) := [(0, .aload_n 0, 1), (1, .getfield 9, 3), (4, .arraylength, 1), (5, .aload_n 0, 1), (6, .invokevirtual 335, 3), (9, .ishr, 1), (10, .ireturn, 1)]
theorem dt_J0_length_8abf5 : ∀ q ∈ tb_J0_length_8abf5, decode cJ0_length_8abf5 q.1 = .ok q.2 := by decide +kernel
theorem jc_J0_charAt_5068e : Cond.code yJ0_charAt_5068e cJ0_charAt_5068e 2 (some .char) ∈ TBL := TBL_of 754 (by decide +kernel) (by decide +kernel)
theorem jm_J0_charAt_5068e : Cond.instanceMethod yJ0_charAt_5068e ∈ TBL := TBL_of 752 (by decide +kernel) (by decide +kernel)
theorem jse_J0_charAt_5068e : Cond.selects yJ0_charAt_5068e.cls yJ0_charAt_5068e yJ0_charAt_5068e ∈ TBL := TBL_of 753 (by decide +kernel) (by decide +kernel)
theorem jT_J0_charAt_5068e : gT yJ0_charAt_5068e cJ0_charAt_5068e 2 (some .char) 1 := ⟨ji_J0, jc_J0_charAt_5068e, by decide +kernel, by decide +kernel⟩
def tb_J0_charAt_5068e : List (Nat × Jvm.ClassFile.Instr × Nat) := [(0, .aload_n 0, 1), (1, .invokevirtual 492, 3), (4, .ifCond .eq 12, 3), (7, .aload_n 0, 1), (8, .getfield 9, 3), (11, .iload_n 1, 1), (12, .invokestatic 495, 3), (15, .ireturn, 1), (16, .aload_n 0, 1), (17, .getfield 9, 3), (20, .iload_n 1, 1), (21, .invokestatic 498, 3), (24, .ireturn, 1)]
theorem dt_J0_charAt_5068e : ∀ q ∈ tb_J0_charAt_5068e, decode cJ0_charAt_5068e q.1 = .ok q.2 := by decide +kernel
theorem jc_J0_checkIndex_df160 : Cond.code yJ0_checkIndex_df160 cJ0_checkIndex_df160 2 none ∈ TBL := TBL_of 764 (by decide +kernel) (by decide +kernel)
theorem js_J0_checkIndex_df160 : Cond.static yJ0_checkIndex_df160 ∈ TBL := TBL_of 763 (by decide +kernel) (by decide +kernel)
theorem jT_J0_checkIndex_df160 : gT yJ0_checkIndex_df160 cJ0_checkIndex_df160 2 none 2 := ⟨ji_J0, jc_J0_checkIndex_df160, by decide +kernel, by decide +kernel⟩
def tb_J0_checkIndex_df160 : List (Nat × Jvm.ClassFile.Instr × Nat) := [(0, .iload_n 0, 1), (1, .iload_n 1, 1), (2, .getstatic 1053, 3), (5, .invokestatic 1059, 3), (8, .pop, 1), (9, .return_, 1)]
theorem dt_J0_checkIndex_df160 : ∀ q ∈ tb_J0_checkIndex_df160, decode cJ0_checkIndex_df160 q.1 = .ok q.2 := by decide +kernel
theorem jc_J1_charAt_3b067 : Cond.code yJ1_charAt_3b067 cJ1_charAt_3b067 2 (some .char) ∈ TBL := TBL_of 761 (by decide +kernel) (by decide +kernel)
theorem js_J1_charAt_3b067 : Cond.static yJ1_charAt_3b067 ∈ TBL := TBL_of 760 (by decide +kernel) (by decide +kernel)
theorem ji_J1 : Cond.initialized RJ1 ∈ TBL := TBL_of 155 (by decide +kernel) (by decide +kernel)
theorem jT_J1_charAt_3b067 : gT yJ1_charAt_3b067 cJ1_charAt_3b067 2 (some .char) 2 := ⟨ji_J1, jc_J1_charAt_3b067, by decide +kernel, by decide +kernel⟩
def tb_J1_charAt_3b067 : List (Nat × Jvm.ClassFile.Instr × Nat) := [(0, .iload_n 1, 1), (1, .aload_n 0, 1), (2, .arraylength, 1), (3, .invokestatic 9, 3), (6, .aload_n 0, 1), (7, .iload_n 1, 1), (8, .baload, 1), (9, .sipush 255, 3), (12, .iand, 1), (13, .i2c, 1), (14, .ireturn, 1)]
theorem dt_J1_charAt_3b067 : ∀ q ∈ tb_J1_charAt_3b067, decode cJ1_charAt_3b067 q.1 = .ok q.2 := by decide +kernel
theorem jc_J3_checkIndex_8e157 : Cond.code yJ3_checkIndex_8e157 cJ3_checkIndex_8e157 3 (some .int) ∈ TBL := TBL_of 769 (by decide +kernel) (by decide +kernel)
theorem js_J3_checkIndex_8e157 : Cond.static yJ3_checkIndex_8e157 ∈ TBL := TBL_of 768 (by decide +kernel) (by decide +kernel)
theorem ji_J3 : Cond.initialized RJ3 ∈ TBL := TBL_of 156 (by decide +kernel) (by decide +kernel)
theorem jT_J3_checkIndex_8e157 : gT yJ3_checkIndex_8e157 cJ3_checkIndex_8e157 3 (some .int) 3 := ⟨ji_J3, jc_J3_checkIndex_8e157, by decide +kernel, by decide +kernel⟩
def tb_J3_checkIndex_8e157 : List (Nat × Jvm.ClassFile.Instr × Nat) := [(0, .iload_n 0, 1), (1, .ifCond .lt 8, 3), (4, .iload_n 0, 1), (5, .iload_n 1, 1), (6, .if_icmp .lt 10, 3), (9, .aload_n 2, 1), (10, .iload_n 0, 1), (11, .iload_n 1, 1), (12, .invokestatic 95, 3), (15, .athrow, 1), (16, .iload_n 0, 1), (17, .ireturn, 1)]
theorem dt_J3_checkIndex_8e157 : ∀ q ∈ tb_J3_checkIndex_8e157, decode cJ3_checkIndex_8e157 q.1 = .ok q.2 := by decide +kernel
theorem jl_J0_335 : Cond.methodLink RJ0 335 yJ0_coder_7d493 ∈ TBL := TBL_of 745 (by decide +kernel) (by decide +kernel)
theorem jl_J0_492 : Cond.methodLink RJ0 492 yJ0_isLatin1_aae02 ∈ TBL := TBL_of 755 (by decide +kernel) (by decide +kernel)
theorem jl_J0_495 : Cond.methodLink RJ0 495 yJ1_charAt_3b067 ∈ TBL := TBL_of 759 (by decide +kernel) (by decide +kernel)
theorem jl_J1_9 : Cond.methodLink RJ1 9 yJ0_checkIndex_df160 ∈ TBL := TBL_of 762 (by decide +kernel) (by decide +kernel)
theorem jl_J0_1059 : Cond.methodLink RJ0 1059 yJ3_checkIndex_8e157 ∈ TBL := TBL_of 767 (by decide +kernel) (by decide +kernel)
theorem sj_coder (l : Launch) (D : va_G) (cA ad : Nat → Nat) (hin : gInj ad shE.length) (w : GW) {i : Nat} (hi : i < 2) : gMet l yJ0_coder_7d493 cJ0_coder_7d493 1 (some .byte) 1 120 D cA ad shE [.ref (5000 + i)] w (some (.int 0)) w := by
  refine g_entry (by decide) hin (Nat.le_of_ble_eq_true rfl) ?_
  intro p e s m args below meth c C
  show gW p l e (gRm 1 120) s m args below meth c D cA ad shE 1 0 0 (gQ below D cA ad shE (some (.int 0)) w args s) 0 [(0, .ref (5000 + i))] [] w
  refine g_getsC C jf38 (gdec dt_J0_coder_7d493 0 rfl) ?_
  refine g_if_eq C (tgt := 13) (gdec dt_J0_coder_7d493 1 rfl) (by decide) (fun h => absurd h (by decide)) (fun _ => ?_)
  refine g_aload_n C (gdec dt_J0_coder_7d493 2 rfl) (i := 0) rfl rfl ?_
  refine g_strc C hi jf15 (gdec dt_J0_coder_7d493 3 rfl) ?_
  refine g_goto C (tgt := 14) (gdec dt_J0_coder_7d493 4 rfl) (by decide) ?_
  exact g_nret C rfl rfl (gdec dt_J0_coder_7d493 6 rfl)
theorem sj_latin (l : Launch) (D : va_G) (cA ad : Nat → Nat) (hin : gInj ad shE.length) (w : GW) {i : Nat} (hi : i < 2) : gMet l yJ0_isLatin1_aae02 cJ0_isLatin1_aae02 1 (some .boolean) 1 120 D cA ad shE [.ref (5000 + i)] w (some (.int 1)) w := by
  refine g_entry (by decide) hin (Nat.le_of_ble_eq_true rfl) ?_
  intro p e s m args below meth c C
  show gW p l e (gRm 1 120) s m args below meth c D cA ad shE 1 0 0 (gQ below D cA ad shE (some (.int 1)) w args s) 0 [(0, .ref (5000 + i))] [] w
  refine g_getsC C jf38 (gdec dt_J0_isLatin1_aae02 0 rfl) ?_
  refine g_if_eq C (tgt := 17) (gdec dt_J0_isLatin1_aae02 1 rfl) (by decide) (fun h => absurd h (by decide)) (fun _ => ?_)
  refine g_aload_n C (gdec dt_J0_isLatin1_aae02 2 rfl) (i := 0) rfl rfl ?_
  refine g_strc C hi jf15 (gdec dt_J0_isLatin1_aae02 3 rfl) ?_
  refine g_if_ne C (tgt := 17) (gdec dt_J0_isLatin1_aae02 4 rfl) (by decide) (fun h => absurd rfl h) (fun _ => ?_)
  refine g_iconst C (gdec dt_J0_isLatin1_aae02 5 rfl) (v := 1) (by decide) ?_
  refine g_goto C (tgt := 18) (gdec dt_J0_isLatin1_aae02 6 rfl) (by decide) ?_
  exact g_nret C rfl rfl (gdec dt_J0_isLatin1_aae02 8 rfl)
theorem txn_shr : ∀ i, i < 2 → (nI (txn i)) >>> ((0 : Int32) &&& 31) = nI (txn i) := by decide +kernel
theorem txn_lt : ∀ i, i < 2 → txn i < 2 ^ 31 ∧ txn i = (txs i).length := by decide +kernel
theorem txs_ok : ∀ i, i < 2 → ∀ b ∈ txs i, ((b &&& 255).toUInt32 % 65536).toInt32 = b ∧ narrow .char (.int b) = .int b := by decide +kernel
theorem sj_length (l : Launch) (D : va_G) (cA ad : Nat → Nat) (hin : gInj ad shE.length) (w : GW) {i : Nat} (hi : i < 2) : gMet l yJ0_length_8abf5 cJ0_length_8abf5 1 (some .int) 2 150 D cA ad shE [.ref (5000 + i)] w (some (.int (nI (txn i)))) w := by
  refine g_entry (by decide) hin (Nat.le_of_ble_eq_true rfl) ?_
  intro p e s m args below meth c C
  show gW p l e (gRm 2 150) s m args below meth c D cA ad shE 1 0 0 (gQ below D cA ad shE (some (.int (nI (txn i)))) w args s) 0 [(0, .ref (5000 + i))] [] w
  refine g_aload_n C (gdec dt_J0_length_8abf5 0 rfl) (i := 0) rfl rfl ?_
  refine g_strv C hi jf9 (gdec dt_J0_length_8abf5 1 rfl) ?_
  refine g_stral C hi (gdec dt_J0_length_8abf5 2 rfl) ?_
  refine g_aload_n C (gdec dt_J0_length_8abf5 3 rfl) (i := 0) rfl rfl ?_
  refine g_invStr [] C hi (sj_coder l D cA _ (fun i j h => absurd h (Nat.not_lt_zero _)) (gsub w []) hi) rfl jT_J0_coder_7d493 rfl jl_J0_335 jm_J0_coder_7d493 jse_J0_coder_7d493 rfl [.int (nI (txn i))] rfl ⟨by decide, by decide⟩ gk0 (Nat.le_of_ble_eq_true rfl) (gdec dt_J0_length_8abf5 4 rfl) rfl rfl ?_
  refine g_ishr C (gdec dt_J0_length_8abf5 5 rfl) ?_
  exact g_iret C (by rw [txn_shr i hi]) (gdec dt_J0_length_8abf5 6 rfl)
theorem sj_check3 (l : Launch) (D : va_G) (cA ad : Nat → Nat) (hin : gInj ad shE.length) (w : GW) {x n : Int32} {v : Value} (hv : v = .null ∨ v = .ref 5200) (h0 : ¬ x < 0) (hn : x < n) : gMet l yJ3_checkIndex_8e157 cJ3_checkIndex_8e157 3 (some .int) 1 120 D cA ad shE [.int x, .int n, v] w (some (.int x)) w := by
  refine g_entry (by decide) hin (by rcases hv with rfl | rfl <;> exact Nat.le_of_ble_eq_true rfl) ?_
  intro p e s m args below meth c C
  have key : gW p l e (gRm 1 120) s m args below meth c D cA ad shE 3 0 0 (gQ below D cA ad shE (some (.int x)) w args s) 0 [(0, .int x), (1, .int n), (2, v)] [] w := by
    refine g_iload_n C (gdec dt_J3_checkIndex_8e157 0 rfl) (i := 0) rfl rfl ?_
    refine g_if_lt C (tgt := 9) (gdec dt_J3_checkIndex_8e157 1 rfl) (by decide) (fun h => absurd h h0) (fun _ => ?_)
    refine g_iload_n C (gdec dt_J3_checkIndex_8e157 2 rfl) (i := 0) rfl rfl ?_
    refine g_iload_n C (gdec dt_J3_checkIndex_8e157 3 rfl) (i := 1) rfl rfl ?_
    refine g_icmp_lt C (tgt := 16) (gdec dt_J3_checkIndex_8e157 4 rfl) (by decide) (fun _ => ?_) (fun h => absurd hn h)
    refine g_iload_n C (gdec dt_J3_checkIndex_8e157 10 rfl) (i := 0) rfl rfl ?_
    exact g_iret C rfl (gdec dt_J3_checkIndex_8e157 11 rfl)
  rcases hv with rfl | rfl <;> exact key
theorem sj_check (l : Launch) (D : va_G) (cA ad : Nat → Nat) (hin : gInj ad shE.length) (w : GW) {x n : Int32} (h0 : ¬ x < 0) (hn : x < n) : gMet l yJ0_checkIndex_df160 cJ0_checkIndex_df160 2 none 2 150 D cA ad shE [.int x, .int n] w none w := by
  refine g_entry (by decide) hin (Nat.le_of_ble_eq_true rfl) ?_
  intro p e s m args below meth c C
  show gW p l e (gRm 2 150) s m args below meth c D cA ad shE 2 0 0 (gQ below D cA ad shE none w args s) 0 [(0, .int x), (1, .int n)] [] w
  refine g_iload_n C (gdec dt_J0_checkIndex_df160 0 rfl) (i := 0) rfl rfl ?_
  refine g_iload_n C (gdec dt_J0_checkIndex_df160 1 rfl) (i := 1) rfl rfl ?_
  refine g_getsP C jf1053 (gdec dt_J0_checkIndex_df160 2 rfl) (fun v hv => ?_)
  refine g_invS [.int x, .int n, v] [] C (sj_check3 l D cA ad hin w hv h0 hn) jT_J3_checkIndex_8e157 jl_J0_1059 js_J3_checkIndex_8e157 rfl rfl ⟨by decide, by decide⟩ gk0 (Nat.le_of_ble_eq_true rfl) (gdec dt_J0_checkIndex_df160 3 rfl) rfl (st2 := [.int x]) rfl ?_
  refine g_pop C (gdec dt_J0_checkIndex_df160 4 rfl) rfl ?_
  exact g_vret C rfl (gdec dt_J0_checkIndex_df160 5 rfl)
theorem sj_at (l : Launch) (D : va_G) (cA ad : Nat → Nat) (hin : gInj ad shE.length) (w : GW) {i : Nat} (hi : i < 2) {x : Int32} (hx : vp_in x (txn i)) : gMet l yJ1_charAt_3b067 cJ1_charAt_3b067 2 (some .char) 3 180 D cA ad shE [.ref (5100 + i), .int x] w (some (.int ((txs i).getD x.toNatClampNeg 0))) w := by
  have hm : (txs i).getD x.toNatClampNeg 0 ∈ txs i := by
    have hlt : x.toNatClampNeg < (txs i).length := by rw [← (txn_lt i hi).2]; exact Nat.not_le.mp fun q => hx (Or.inr q)
    rw [List.getD_eq_getElem?_getD, List.getElem?_eq_getElem hlt]
    exact List.getElem_mem hlt
  have hok := txs_ok i hi _ hm
  obtain ⟨j, hj, rfl⟩ := vp_in_of hx (txn_lt i hi).1
  refine g_entry (by decide) hin (Nat.le_of_ble_eq_true rfl) ?_
  intro p e s m args below meth c C
  show gW p l e (gRm 3 180) s m args below meth c D cA ad shE 2 0 0 (gQ below D cA ad shE (some (.int ((txs i).getD (nI j).toNatClampNeg 0))) w args s) 0 [(0, .ref (5100 + i)), (1, .int (nI j))] [] w
  refine g_iload_n C (gdec dt_J1_charAt_3b067 0 rfl) (i := 1) rfl rfl ?_
  refine g_aload_n C (gdec dt_J1_charAt_3b067 1 rfl) (i := 0) rfl rfl ?_
  refine g_stral C hi (gdec dt_J1_charAt_3b067 2 rfl) ?_
  refine g_invS [.int (nI j), .int (nI (txn i))] [] C (sj_check l D cA ad hin w (nI_pos (Nat.lt_trans hj (txn_lt i hi).1)) (nI_lt hj (txn_lt i hi).1)) jT_J0_checkIndex_df160 jl_J1_9 js_J0_checkIndex_df160 rfl rfl ⟨by decide, by decide⟩ gk0 (Nat.le_of_ble_eq_true rfl) (gdec dt_J1_charAt_3b067 3 rfl) rfl (st2 := []) rfl ?_
  refine g_aload_n C (gdec dt_J1_charAt_3b067 4 rfl) (i := 0) rfl rfl ?_
  refine g_iload_n C (gdec dt_J1_charAt_3b067 5 rfl) (i := 1) rfl rfl ?_
  refine g_strba C hi hx (gdec dt_J1_charAt_3b067 6 rfl) ?_
  refine g_sipush C (gdec dt_J1_charAt_3b067 7 rfl) (v := 255) (by decide) ?_
  refine g_iand C (gdec dt_J1_charAt_3b067 8 rfl) ?_
  refine g_i2c C (gdec dt_J1_charAt_3b067 9 rfl) ?_
  exact g_nret C (by rw [hok.1]; exact hok.2) (by rw [hok.1]) (gdec dt_J1_charAt_3b067 10 rfl)
theorem sj_charAt (l : Launch) (D : va_G) (cA ad : Nat → Nat) (hin : gInj ad shE.length) (w : GW) {i : Nat} (hi : i < 2) {x : Int32} (hx : vp_in x (txn i)) : gMet l yJ0_charAt_5068e cJ0_charAt_5068e 2 (some .char) 4 210 D cA ad shE [.ref (5000 + i), .int x] w (some (.int ((txs i).getD x.toNatClampNeg 0))) w := by
  have hm : (txs i).getD x.toNatClampNeg 0 ∈ txs i := by
    have hlt : x.toNatClampNeg < (txs i).length := by rw [← (txn_lt i hi).2]; exact Nat.not_le.mp fun q => hx (Or.inr q)
    rw [List.getD_eq_getElem?_getD, List.getElem?_eq_getElem hlt]
    exact List.getElem_mem hlt
  have hok := txs_ok i hi _ hm
  refine g_entry (by decide) hin (Nat.le_of_ble_eq_true rfl) ?_
  intro p e s m args below meth c C
  show gW p l e (gRm 4 210) s m args below meth c D cA ad shE 2 0 0 (gQ below D cA ad shE (some (.int ((txs i).getD x.toNatClampNeg 0))) w args s) 0 [(0, .ref (5000 + i)), (1, .int x)] [] w
  refine g_aload_n C (gdec dt_J0_charAt_5068e 0 rfl) (i := 0) rfl rfl ?_
  refine g_invStr [] C hi (sj_latin l D cA _ (fun i j h => absurd h (Nat.not_lt_zero _)) (gsub w []) hi) rfl jT_J0_isLatin1_aae02 rfl jl_J0_492 jm_J0_isLatin1_aae02 jse_J0_isLatin1_aae02 rfl [] rfl ⟨by decide, by decide⟩ gk0 (Nat.le_of_ble_eq_true rfl) (gdec dt_J0_charAt_5068e 1 rfl) rfl rfl ?_
  refine g_if_eq C (tgt := 16) (gdec dt_J0_charAt_5068e 2 rfl) (by decide) (fun h => absurd h (by decide)) (fun _ => ?_)
  refine g_aload_n C (gdec dt_J0_charAt_5068e 3 rfl) (i := 0) rfl rfl ?_
  refine g_strv C hi jf9 (gdec dt_J0_charAt_5068e 4 rfl) ?_
  refine g_iload_n C (gdec dt_J0_charAt_5068e 5 rfl) (i := 1) rfl rfl ?_
  refine g_invS [.ref (5100 + i), .int x] [] C (sj_at l D cA ad hin w hi hx) jT_J1_charAt_3b067 jl_J0_495 js_J1_charAt_3b067 rfl rfl ⟨by decide, by decide⟩ gk0 (Nat.le_of_ble_eq_true rfl) (gdec dt_J0_charAt_5068e 6 rfl) rfl (st2 := [.int ((txs i).getD x.toNatClampNeg 0)]) rfl ?_
  exact g_nret C hok.2 rfl (gdec dt_J0_charAt_5068e 7 rfl)
section GSTR2
variable {p : Program} {l : Launch} {e : Env} {R : Room} {s : State} {m : MethodId} {args : Array Value} {below : List Frame} {meth : Method} {c : Code} {D : va_G} {cA ad : Nat → Nat} {sh : GS} {nL kc ks : Nat} {Q : State → Prop} {cc : ByteArray} {ret : Option FieldType} {own : String} {pc : Nat} {lo : List (Nat × Value)} {w : GW} {st : List Value}
theorem g_slenW {idx : Nat} (C : gC p c cc meth m s args nL ret own D cA ad sh) (hd : decode cc pc = .ok (.invokevirtual idx, 3)) (hl : Cond.methodLink own idx yJ0_length_8abf5 ∈ TBL) (hcat : (st.map fun v => v.category).sum ≤ 8) (hR : 6 ≤ R.frames ∧ 622 ≤ R.locals) (hkk : kc ≤ R.cells ∧ ks ≤ R.slots) (k : gW p l e R s m args below meth c D cA ad sh nL kc ks Q (pc + 3) lo (.int (140 : Int32) :: st) w) : gW p l e R s m args below meth c D cA ad sh nL kc ks Q pc lo (.ref 5000 :: st) w :=
  g_invStr (i := 0) [] C (by decide) (sj_length l D cA _ (fun i j h => absurd h (Nat.not_lt_zero _)) (gsub w []) (by decide)) rfl jT_J0_length_8abf5 rfl hl jm_J0_length_8abf5 jse_J0_length_8abf5 rfl st rfl ⟨by omega, by omega⟩ hkk hcat hd rfl rfl k
theorem g_scharW {idx : Nat} {x : Int32} (C : gC p c cc meth m s args nL ret own D cA ad sh) (hd : decode cc pc = .ok (.invokevirtual idx, 3)) (hl : Cond.methodLink own idx yJ0_charAt_5068e ∈ TBL) (hg : vp_in x 140) (hcat : (st.map fun v => v.category).sum ≤ 8) (hR : 6 ≤ R.frames ∧ 622 ≤ R.locals) (hkk : kc ≤ R.cells ∧ ks ≤ R.slots) (k : gW p l e R s m args below meth c D cA ad sh nL kc ks Q (pc + 3) lo (.int (txW.getD x.toNatClampNeg 0) :: st) w) : gW p l e R s m args below meth c D cA ad sh nL kc ks Q pc lo (.int x :: .ref 5000 :: st) w :=
  g_invStr (i := 0) [.int x] C (by decide) (sj_charAt l D cA _ (fun i j h => absurd h (Nat.not_lt_zero _)) (gsub w []) (by decide) hg) rfl jT_J0_charAt_5068e rfl hl jm_J0_charAt_5068e jse_J0_charAt_5068e rfl st rfl ⟨by omega, by omega⟩ hkk hcat hd rfl rfl k
theorem g_slenK {idx : Nat} (C : gC p c cc meth m s args nL ret own D cA ad sh) (hd : decode cc pc = .ok (.invokevirtual idx, 3)) (hl : Cond.methodLink own idx yJ0_length_8abf5 ∈ TBL) (hcat : (st.map fun v => v.category).sum ≤ 8) (hR : 6 ≤ R.frames ∧ 622 ≤ R.locals) (hkk : kc ≤ R.cells ∧ ks ≤ R.slots) (k : gW p l e R s m args below meth c D cA ad sh nL kc ks Q (pc + 3) lo (.int (141 : Int32) :: st) w) : gW p l e R s m args below meth c D cA ad sh nL kc ks Q pc lo (.ref 5001 :: st) w :=
  g_invStr (i := 1) [] C (by decide) (sj_length l D cA _ (fun i j h => absurd h (Nat.not_lt_zero _)) (gsub w []) (by decide)) rfl jT_J0_length_8abf5 rfl hl jm_J0_length_8abf5 jse_J0_length_8abf5 rfl st rfl ⟨by omega, by omega⟩ hkk hcat hd rfl rfl k
theorem g_scharK {idx : Nat} {x : Int32} (C : gC p c cc meth m s args nL ret own D cA ad sh) (hd : decode cc pc = .ok (.invokevirtual idx, 3)) (hl : Cond.methodLink own idx yJ0_charAt_5068e ∈ TBL) (hg : vp_in x 141) (hcat : (st.map fun v => v.category).sum ≤ 8) (hR : 6 ≤ R.frames ∧ 622 ≤ R.locals) (hkk : kc ≤ R.cells ∧ ks ≤ R.slots) (k : gW p l e R s m args below meth c D cA ad sh nL kc ks Q (pc + 3) lo (.int (txK.getD x.toNatClampNeg 0) :: st) w) : gW p l e R s m args below meth c D cA ad sh nL kc ks Q pc lo (.int x :: .ref 5001 :: st) w :=
  g_invStr (i := 1) [.int x] C (by decide) (sj_charAt l D cA _ (fun i j h => absurd h (Nat.not_lt_zero _)) (gsub w []) (by decide) hg) rfl jT_J0_charAt_5068e rfl hl jm_J0_charAt_5068e jse_J0_charAt_5068e rfl st rfl ⟨by omega, by omega⟩ hkk hcat hd rfl rfl k
end GSTR2
