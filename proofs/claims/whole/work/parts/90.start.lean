theorem kc_X10_init : Cond.code yX10_init cX10_init 2 none ∈ TBL := TBL_at1 24 rfl rfl
theorem kT_X10_init : gT yX10_init cX10_init 2 none 0 := ⟨ki_X10, kc_X10_init, by decide +kernel, by decide +kernel⟩
theorem kim_X10_init : Cond.instanceMethod yX10_init ∈ TBL := TBL_at1 23 rfl rfl
theorem kl_L_9 : Cond.methodLink RL 9 yX10_init ∈ TBL := TBL_at1 22 rfl rfl
theorem kc_X11_init : Cond.code yX11_init cX11_init 1 none ∈ TBL := TBL_at6 155 rfl rfl
theorem kT_X11_init : gT yX11_init cX11_init 1 none 0 := ⟨ki_X11, kc_X11_init, by decide +kernel, by decide +kernel⟩
theorem kim_X11_init : Cond.instanceMethod yX11_init ∈ TBL := TBL_at6 154 rfl rfl
theorem kl_L_12 : Cond.methodLink RL 12 yX11_init ∈ TBL := TBL_at6 153 rfl rfl
/-! whole_start: the two constructors, then the loop. -/
def gsh (k : Nat) (s : Nat × List Nat) : Nat × List Nat := if s.1 < 4 then s else if s.1 < 10 then (s.1, s.2.map (fun q => k + q)) else (s.1, s.2.map (fun q => if q < 2 then q else k + (q - 2) + 2))
def gwf (n : Nat) (sh : GS) : Bool := sh.all (fun s => if s.1 < 4 then true else if s.1 < 10 then s.2.all (fun q => decide (q < n)) else s.2.all (fun q => decide (q < n + 2)))
theorem gfld_ad {ad ad1 : Nat → Nat} {w w1 : GW} {i j k n q : Nat} (hq : q < n + 2) (ha : ∀ m, m < n → ad m = ad1 m) (h1 : w.1 i = w1.1 j) (h2 : w.2 i = w1.2 j) : gfld ad w i k q = gfld ad1 w1 j k q := by
  unfold gfld
  rw [h1, h2]
  by_cases e0 : q = 0
  · rw [if_pos e0, if_pos e0]
  · by_cases e1 : q = 1
    · rw [if_neg e0, if_neg e0, if_pos e1, if_pos e1]
    · rw [if_neg e0, if_neg e0, if_neg e1, if_neg e1, ha _ (by omega)]
theorem gfld_sh {ad ad2 : Nat → Nat} {w w2 : GW} {i j k n n1 q : Nat} (hq : q < n + 2) (ha : ∀ m, m < n → ad (n1 + m) = ad2 m) (h1 : w.1 i = w2.1 j) (h2 : w.2 i = w2.2 j) : gfld ad w i k (if q < 2 then q else n1 + (q - 2) + 2) = gfld ad2 w2 j k q := by
  unfold gfld
  rw [h1, h2]
  by_cases e0 : q = 0
  · subst e0; rfl
  · by_cases e1 : q = 1
    · subst e1; rfl
    · have e2 : ¬ q < 2 := by omega
      have e3 : ¬ n1 + (q - 2) + 2 = 0 := by omega
      have e4 : ¬ n1 + (q - 2) + 2 = 1 := by omega
      have e5 : n1 + (q - 2) + 2 - 2 = n1 + (q - 2) := by omega
      rw [if_neg e2, if_neg e3, if_neg e4, if_neg e0, if_neg e1, e5, ha _ (by omega)]
theorem gcell_ad {cA ad ad1 : Nat → Nat} {w w1 : GW} {i n : Nat} {s : Nat × List Nat} (hs : (if s.1 < 4 then true else if s.1 < 10 then s.2.all (fun q => decide (q < n)) else s.2.all (fun q => decide (q < n + 2))) = true) (ha : ∀ m, m < n → ad m = ad1 m) (h1 : w.1 i = w1.1 i) (h2 : w.2 i = w1.2 i) : gcell cA ad w i s = gcell cA ad1 w1 i s := by
  obtain ⟨t, ps⟩ := s
  by_cases h4 : t < 4
  · unfold gcell
    by_cases h3 : t < 3
    · rw [if_pos h3, if_pos h3, h1]
    · rw [if_neg h3, if_neg h3, if_pos (by show t = 3; omega), if_pos (by show t = 3; omega), h2]
  · by_cases h10 : t < 10
    · rw [if_neg h4, if_pos h10] at hs
      rw [gcell_refs (by omega) h10, gcell_refs (by omega) h10]
      have e : (fun k : Nat => (ps[k]?).map ad) = fun k : Nat => (ps[k]?).map ad1 := by
        funext k
        cases hk : ps[k]? with
        | none => rfl
        | some q => exact congrArg some (ha q (by simpa using List.all_eq_true.mp hs q (List.mem_of_getElem? hk)))
      rw [e]
    · rw [if_neg h4, if_neg h10] at hs
      unfold gcell
      rw [if_neg (by show ¬ t < 3; omega), if_neg (by show ¬ t = 3; omega), if_neg h10, if_neg (by show ¬ t < 3; omega), if_neg (by show ¬ t = 3; omega), if_neg h10]
      congr 2
      apply List.ext_getElem?
      intro k
      rw [List.getElem?_mapIdx, List.getElem?_mapIdx]
      cases hk : ps[k]? with
      | none => rfl
      | some q => exact congrArg some (gfld_ad (n := n) (by simpa using List.all_eq_true.mp hs q (List.mem_of_getElem? hk)) ha h1 h2)
theorem gcell_sh {cA ad ad2 : Nat → Nat} {w w2 : GW} {i j n n1 : Nat} {s : Nat × List Nat} (hs : (if s.1 < 4 then true else if s.1 < 10 then s.2.all (fun q => decide (q < n)) else s.2.all (fun q => decide (q < n + 2))) = true) (ha : ∀ m, m < n → ad (n1 + m) = ad2 m) (h1 : w.1 i = w2.1 j) (h2 : w.2 i = w2.2 j) : gcell cA ad w i (gsh n1 s) = gcell cA ad2 w2 j s := by
  obtain ⟨t, ps⟩ := s
  unfold gsh
  by_cases h4 : t < 4
  · rw [if_pos h4]
    unfold gcell
    by_cases h3 : t < 3
    · rw [if_pos h3, if_pos h3, h1]
    · rw [if_neg h3, if_neg h3, if_pos (by show t = 3; omega), if_pos (by show t = 3; omega), h2]
  · rw [if_neg h4]
    by_cases h10 : t < 10
    · rw [if_neg h4, if_pos h10] at hs
      rw [if_pos h10, gcell_refs (by omega) h10, gcell_refs (by omega) h10, List.length_map]
      have e : (fun k : Nat => ((ps.map (fun q => n1 + q))[k]?).map ad) = fun k : Nat => (ps[k]?).map ad2 := by
        funext k
        rw [List.getElem?_map]
        cases hk : ps[k]? with
        | none => rfl
        | some q => exact congrArg some (ha q (by simpa using List.all_eq_true.mp hs q (List.mem_of_getElem? hk)))
      rw [e]
    · rw [if_neg h4, if_neg h10] at hs
      rw [if_neg h10]
      unfold gcell
      rw [if_neg (by show ¬ t < 3; omega), if_neg (by show ¬ t = 3; omega), if_neg h10, if_neg (by show ¬ t < 3; omega), if_neg (by show ¬ t = 3; omega), if_neg h10]
      congr 2
      apply List.ext_getElem?
      intro k
      rw [List.getElem?_mapIdx, List.getElem?_mapIdx, List.getElem?_map]
      cases hk : ps[k]? with
      | none => rfl
      | some q => exact congrArg some (gfld_sh (n := n) (by simpa using List.all_eq_true.mp hs q (List.mem_of_getElem? hk)) ha h1 h2)
theorem gM_app {cA ad ad1 ad2 : Nat → Nat} {sh1 sh2 : GS} {w w1 w2 : GW} (wf1 : gwf sh1.length sh1 = true) (wf2 : gwf sh2.length sh2 = true) (ha1 : ∀ m, m < sh1.length → ad m = ad1 m) (ha2 : ∀ m, m < sh2.length → ad (sh1.length + m) = ad2 m) (h1 : ∀ i, i < sh1.length → w.1 i = w1.1 i ∧ w.2 i = w1.2 i) (h2 : ∀ i, i < sh2.length → w.1 (sh1.length + i) = w2.1 i ∧ w.2 (sh1.length + i) = w2.2 i) :
    gM cA ad1 sh1 w1 ++ gM cA ad2 sh2 w2 = gM cA ad (sh1 ++ sh2.map (gsh sh1.length)) w := by
  apply List.ext_getElem?
  intro k
  by_cases hk : k < sh1.length
  · obtain ⟨s, hs⟩ : ∃ s, sh1[k]? = some s := ⟨_, List.getElem?_eq_getElem hk⟩
    rw [List.getElem?_append_left (by rw [gM_len]; exact hk), gM_at hs, gM_at (s := s) (by rw [List.getElem?_append_left hk]; exact hs), ha1 k hk, gcell_ad (n := sh1.length) (List.all_eq_true.mp wf1 s (List.mem_of_getElem? hs)) ha1 (h1 k hk).1 (h1 k hk).2]
  · rw [List.getElem?_append_right (by rw [gM_len]; omega), gM_len]
    cases hs : sh2[k - sh1.length]? with
    | none =>
      have hl := List.getElem?_eq_none_iff.mp hs
      rw [List.getElem?_eq_none (by rw [gM_len]; exact hl), List.getElem?_eq_none (by rw [gM_len]; simp; omega)]
    | some s =>
      have hl := (List.getElem?_eq_some_iff.mp hs).1
      have ek : sh1.length + (k - sh1.length) = k := by omega
      have e1 := ha2 _ hl
      have e2 := h2 _ hl
      rw [ek] at e1 e2
      rw [gM_at hs, gM_at (s := gsh sh1.length s) (by rw [List.getElem?_append_right (by omega), List.getElem?_map, hs]; rfl), e1, gcell_sh (n := sh2.length) (List.all_eq_true.mp wf2 s (List.mem_of_getElem? hs)) ha2 e2.1 e2.2]
theorem shXM_eq : shXM = shX ++ shM.map (gsh shX.length) := by decide +kernel
theorem shX_wf : gwf shX.length shX = true := by decide +kernel
theorem shM_wf : gwf shM.length shM = true := by decide +kernel
theorem shX_n : shX.length = 138 := by decide +kernel
theorem shM_n : shM.length = 19 := by decide +kernel
theorem shXM_n : shXM.length = 157 := by decide +kernel
def adSt (adK adV : Nat → Nat) (t b : Nat) (i : Nat) : Nat := if i = 6000 then b else if i = 5200 then t else if i < 5100 then adK (i - 5000) else adV (i - 5100)
def adF (qX qM : List Nat) (adS : Nat → Nat) (i : Nat) : Nat := if i < 138 then adL qX adS i else if i < 157 then adL qM adS (i - 138) else adS i
def stT (i : Nat) : Term := if i = 0 then .string "WebBank$Text" 109 else .string "WebBankModel" 181
def stF : List Cond := flatC (Jvm.Cond.and given_1 narrow_1)
theorem st_el0 : (List.range 140).map (fun j => Cond.eq (.elem (.field (stT 0) "java/lang/String" "value" "[B") (.int (Int32.ofNat j))) (.int ((txs 0).getD j 0))) = (stF.drop 13).take 140 := by decide +kernel
theorem st_el1 : (List.range 141).map (fun j => Cond.eq (.elem (.field (stT 1) "java/lang/String" "value" "[B") (.int (Int32.ofNat j))) (.int ((txs 1).getD j 0))) = (stF.drop 157).take 141 := by decide +kernel
theorem gStr_start {b : Nat} {s : State} {A : Nat → Prop} (hts : ∀ w ∈ lw_tbl, w.before #[Value.ref b] s = true) (hgv : (Jvm.Cond.and given_1 narrow_1).before #[Value.ref b] s = true) (hA : ∀ a : Nat, a < s.heap.size → ¬ A a) : ∃ (adK adV : Nat → Nat) (t : Nat), gStr (adSt adK adV t b) A s s.heap := by
  have hs := flat_of_before _ hgv
  have mem : ∀ (i : Nat) (c : Cond), stF[i]? = some c → c.before #[Value.ref b] s = true := fun i c h => hs c (List.mem_of_getElem? h)
  obtain ⟨adK, adV, hS, hev⟩ := vk_Sof (args := #[Value.ref b]) (s := s) (N := 2) (tm := stT) (len := [140, 141]) (byt := [txW, txK]) (A := A) (by decide)
    (fun i hi => by
      match i, hi with
      | 0, _ => exact mem 9 _ (by decide +kernel)
      | 1, _ => exact mem 153 _ (by decide +kernel))
    (fun i hi => by
      match i, hi with
      | 0, _ => exact mem 10 _ (by decide +kernel)
      | 1, _ => exact mem 154 _ (by decide +kernel))
    (fun i hi => by
      match i, hi with
      | 0, _ => exact mem 11 _ (by decide +kernel)
      | 1, _ => exact mem 155 _ (by decide +kernel))
    (fun i hi => by
      match i, hi with
      | 0, _ => exact mem 12 _ (by decide +kernel)
      | 1, _ => exact mem 156 _ (by decide +kernel))
    (fun i hi j hj => by
      match i, hi with
      | 0, _ => exact hs _ (va_run (f := fun j => Cond.eq (.elem (.field (stT 0) "java/lang/String" "value" "[B") (.int (Int32.ofNat j))) (.int ((txs 0).getD j 0))) st_el0 j hj)
      | 1, _ => exact hs _ (va_run (f := fun j => Cond.eq (.elem (.field (stT 1) "java/lang/String" "value" "[B") (.int (Int32.ofNat j))) (.int ((txs 1).getD j 0))) st_el1 j hj))
    (fun i j hi hj hne => by
      match i, hi, j, hj, hne with
      | 0, _, 1, _, _ => exact Or.inl (mem 298 _ (by decide +kernel))
      | 1, _, 0, _, _ => exact Or.inr (mem 298 _ (by decide +kernel))
      | 0, _, 0, _, h => exact absurd rfl h
      | 1, _, 1, _, h => exact absurd rfl h) hA
  have hw0 := hts (Cond.stringRef "WebBank$Text" 109 "odds cash corner still rank at pay clerk in served grey sham client sum nerve year move swap fan dust look run any when looks loop end stop ") (List.mem_of_getElem? (i := 740) (by decide +kernel))
  have hw1 := hts (Cond.stringRef "WebBankModel" 181 " odds cash corner rank clerk client still at pay in served grey sham sum nerve year move swap fan dust look run any when loop end stop looks ") (List.mem_of_getElem? (i := 1710) (by decide +kernel))
  have hz := va_Zof (C := "java/lang/String") (n := "COMPACT_STRINGS") (d := "Z") (v := .int 1) (A := A) (hts _ (List.mem_of_getElem? (i := 750) (by decide +kernel))) (hts _ (List.mem_of_getElem? (i := 154) (by decide +kernel))) (va_eqi (mem 4 _ (by decide +kernel))) hA
  have hq := va_Zqof (C := "jdk/internal/util/Preconditions") (n := "SIOOBE_FORMATTER") (d := "Ljava/util/function/BiFunction;") (A := A) (hts _ (List.mem_of_getElem? (i := 766) (by decide +kernel))) (hts _ (List.mem_of_getElem? (i := 156) (by decide +kernel))) (mem 5 _ (by decide +kernel)) hA
  obtain ⟨t, ht⟩ : ∃ t : Nat, va_Z "jdk/internal/util/Preconditions" "SIOOBE_FORMATTER" "Ljava/util/function/BiFunction;" .null A s s.heap ∨ va_Z "jdk/internal/util/Preconditions" "SIOOBE_FORMATTER" "Ljava/util/function/BiFunction;" (.ref t) A s s.heap := by
    rcases hq with h | ⟨t, h⟩
    · exact ⟨0, Or.inl h⟩
    · exact ⟨t, Or.inr h⟩
  refine ⟨adK, adV, t, ?_, hz, ht, ?_, ?_⟩
  · have e1 : ∀ i, i < 2 → adSt adK adV t b (5000 + i) = adK i := fun i hi => by
      match i, hi with
      | 0, _ => rfl
      | 1, _ => rfl
    have e2 : ∀ i, i < 2 → adSt adK adV t b (5100 + i) = adV i := fun i hi => by
      match i, hi with
      | 0, _ => rfl
      | 1, _ => rfl
    refine ⟨fun i hi => ?_, fun i j hi hj h => ?_⟩
    · show va_O _ (adSt adK adV t b (5000 + i)) A s s.heap ∧ va_OF _ _ _ _ (adSt adK adV t b (5000 + i)) A s s.heap ∧ va_OF _ _ _ (.ref (adSt adK adV t b (5100 + i))) (adSt adK adV t b (5000 + i)) A s s.heap ∧ va_T _ (adSt adK adV t b (5100 + i)) _ _ A s s.heap
      rw [e1 i hi, e2 i hi]
      exact hS.1 i hi
    · have h' : adSt adK adV t b (5000 + i) = adSt adK adV t b (5000 + j) := h
      rw [e1 i hi, e1 j hj] at h'
      exact hS.2 i j hi hj h'
  · exact vk_R.of hw0 (hev 0 (by decide))
  · exact vk_R.of hw1 (hev 1 (by decide))
theorem cK_start {b : Nat} {s : State} (hts : ∀ w ∈ lw_tbl, w.before #[Value.ref b] s = true) : ∃ (D : va_G) (cA : Nat → ClassId), cK D cA s := by
  obtain ⟨c0, i0, hk0⟩ := u_known (C := RX0) (T := TX0) (N := 19) (n := 19) hts (fun w h => TBL_in (inw_X0 w h)) (hts (.instantiable RX0 19) (List.mem_of_getElem? (i := 257) (by decide +kernel)))
  obtain ⟨c1, i1, hk1⟩ := u_known (C := RX1) (T := TX1) (N := 4) (n := 4) hts (fun w h => TBL_in (inw_X1 w h)) (hts (.instantiable RX1 4) (List.mem_of_getElem? (i := 411) (by decide +kernel)))
  obtain ⟨c2, i2, hk2⟩ := u_known (C := RX2) (T := TX2) (N := 5) (n := 5) hts (fun w h => TBL_in (inw_X2 w h)) (hts (.instantiable RX2 5) (List.mem_of_getElem? (i := 507) (by decide +kernel)))
  obtain ⟨c3, i3, hk3⟩ := u_known (C := RX3) (T := TX3) (N := 10) (n := 10) hts (fun w h => TBL_in (inw_X3 w h)) (hts (.instantiable RX3 10) (List.mem_of_getElem? (i := 454) (by decide +kernel)))
  obtain ⟨c4, i4, hk4⟩ := u_known (C := RX4) (T := TX4) (N := 2) (n := 2) hts (fun w h => TBL_in (inw_X4 w h)) (hts (.instantiable RX4 2) (List.mem_of_getElem? (i := 530) (by decide +kernel)))
  obtain ⟨c5, i5, hk5⟩ := u_known (C := RX5) (T := TX5) (N := 9) (n := 9) hts (fun w h => TBL_in (inw_X5 w h)) (hts (.instantiable RX5 9) (List.mem_of_getElem? (i := 362) (by decide +kernel)))
  obtain ⟨c6, i6, hk6⟩ := u_known (C := RX6) (T := TX6) (N := 5) (n := 5) hts (fun w h => TBL_in (inw_X6 w h)) (hts (.instantiable RX6 5) (List.mem_of_getElem? (i := 430) (by decide +kernel)))
  obtain ⟨c7, i7, hk7⟩ := u_known (C := RX7) (T := TX7) (N := 1) (n := 1) hts (fun w h => TBL_in (inw_X7 w h)) (hts (.instantiable RX7 1) (List.mem_of_getElem? (i := 497) (by decide +kernel)))
  obtain ⟨c8, i8, hk8⟩ := u_known (C := RX8) (T := TX8) (N := 17) (n := 17) hts (fun w h => TBL_in (inw_X8 w h)) (hts (.instantiable RX8 17) (List.mem_of_getElem? (i := 189) (by decide +kernel)))
  obtain ⟨c9, i9, hk9⟩ := u_known (C := RX9) (T := TX9) (N := 3) (n := 3) hts (fun w h => TBL_in (inw_X9 w h)) (hts (.instantiable RX9 3) (List.mem_of_getElem? (i := 169) (by decide +kernel)))
  obtain ⟨c10, i10, hk10⟩ := u_known (C := RX10) (T := TX10) (N := 18) (n := 18) hts (fun w h => TBL_in (inw_X10 w h)) (hts (.instantiable RX10 18) (List.mem_of_getElem? (i := 161) (by decide +kernel)))
  obtain ⟨c11, i11, hk11⟩ := u_known (C := RX11) (T := TX11) (N := 40) (n := 40) hts (fun w h => TBL_in (inw_X11 w h)) (hts (.instantiable RX11 40) (List.mem_of_getElem? (i := 1492) (by decide +kernel)))
  have ar : ∀ ty : FieldType, (Cond.arrayClass ty).before #[Value.ref b] s = true → ∃ cX : ClassId, ArrOfT s cX ty ∧ s.vm.findClass ("[" ++ ty.toString) = some cX := fun ty h => by
    obtain ⟨cX, k, comp, h1, h2, h3⟩ := Cond.arrayClass_spec h
    exact ⟨cX, fun n z => ⟨fun q hq => (by cases hq), k, h2, comp, h3⟩, h1⟩
  obtain ⟨a0, g0, f0⟩ := ar .int (hts _ (List.mem_of_getElem? (i := 187) (by decide +kernel)))
  obtain ⟨a1, g1, f1⟩ := ar .byte (hts _ (List.mem_of_getElem? (i := 255) (by decide +kernel)))
  obtain ⟨a2, g2, f2⟩ := ar .boolean (hts _ (List.mem_of_getElem? (i := 1622) (by decide +kernel)))
  obtain ⟨a3, g3, f3⟩ := ar .long (hts _ (List.mem_of_getElem? (i := 186) (by decide +kernel)))
  have hAO : va_AO RX4 s := va_AO.of (hts (.arrayOver (.object RX4)) (List.mem_of_getElem? (i := 452) (by decide +kernel)))
  have hAA : va_AOA .long s := va_AOA.of (hts (.arrayOver (.array .long)) (List.mem_of_getElem? (i := 175) (by decide +kernel)))
  obtain ⟨comp4, a4, k4, u1, u2, u3, u4, u5⟩ := Cond.arrayOver_spec hAO
  obtain ⟨comp5, a5, k5, v1, v2, v3, v4, v5⟩ := Stand.arrayOver_specB hAA
  refine ⟨(fun k => ([c0, c1, c2, c3, c4, c5, c6, c7, c8, c9, c10, c11] : List ClassId).getD k 0, fun k => ([i0, i1, i2, i3, i4, i5, i6, i7, i8, i9, i10, i11] : List (Nat → Nat)).getD k id), fun k => ([a0, a1, a2, a3, a4, a5] : List ClassId).getD k 0, ⟨⟨fun k q hq => ?_, fun k q hq => ?_⟩, fun w hw => ?_⟩, hAO, hAA⟩
  · match k, hq with
    | 0, hq => cases hq; exact hk0
    | 1, hq => cases hq; exact hk1
    | 2, hq => cases hq; exact hk2
    | 3, hq => cases hq; exact hk3
    | 4, hq => cases hq; exact hk4
    | 5, hq => cases hq; exact hk5
    | 6, hq => cases hq; exact hk6
    | 7, hq => cases hq; exact hk7
    | 8, hq => cases hq; exact hk8
    | 9, hq => cases hq; exact hk9
    | 10, hq => cases hq; exact hk10
    | 11, hq => cases hq; exact hk11
    | k + 12, hq => simp [vwCl] at hq
  · match k, hq with
    | 0, hq => cases hq; exact ⟨g0, f0⟩
    | 1, hq => cases hq; exact ⟨g1, f1⟩
    | 2, hq => cases hq; exact ⟨g2, f2⟩
    | 3, hq => cases hq; exact ⟨g3, f3⟩
    | 4, hq => cases hq; exact ⟨fun n z => ⟨fun q hq => (by cases hq), k4, u3, comp4, u4⟩, k4, comp4, u3, u4, u1, u5⟩
    | 5, hq => cases hq; exact ⟨fun n z => ⟨fun q hq => (by cases hq), k5, v3, comp5, v4⟩, v5⟩
    | k + 6, hq => simp [gtys] at hq
  · simp only [NST, List.mem_cons, List.not_mem_nil, or_false] at hw
    rcases hw with rfl | rfl | rfl | rfl | rfl | rfl | rfl | rfl | rfl | rfl | rfl
    · exact va_Nw.of rfl (hts _ (List.mem_of_getElem? (i := 190) (by decide +kernel)))
    · exact va_Nw.of rfl (hts _ (List.mem_of_getElem? (i := 363) (by decide +kernel)))
    · exact va_Nw.of rfl (hts _ (List.mem_of_getElem? (i := 455) (by decide +kernel)))
    · exact va_Nw.of rfl (hts _ (List.mem_of_getElem? (i := 498) (by decide +kernel)))
    · exact va_Nw.of rfl (hts _ (List.mem_of_getElem? (i := 508) (by decide +kernel)))
    · exact va_Nw.of rfl (hts _ (List.mem_of_getElem? (i := 531) (by decide +kernel)))
    · exact va_Nw.of rfl (hts _ (List.mem_of_getElem? (i := 538) (by decide +kernel)))
    · exact va_Nw.of rfl (hts _ (List.mem_of_getElem? (i := 1060) (by decide +kernel)))
    · exact va_Nw.of rfl (hts _ (List.mem_of_getElem? (i := 1110) (by decide +kernel)))
    · exact va_Nw.of rfl (hts _ (List.mem_of_getElem? (i := 1314) (by decide +kernel)))
    · exact va_Nw.of rfl (hts _ (List.mem_of_getElem? (i := 1360) (by decide +kernel)))
theorem df_X10 : ∀ j, j < 18 → defaultValue (tyX10 j) = vp_V [.null, .null, .null, .null, .null, .null, .null, .null, .null, .null, .null, .null, .null, .int 0, .int 0, .int 0, .long 0, .long 0] j := by decide +kernel
theorem df_X11 : ∀ j, j < 40 → defaultValue (tyX11 j) = vp_V [.null, .null, .int 0, .long 0, .long 0, .null, .null, .null, .null, .null, .int 0, .int 0, .int 0, .int 0, .int 0, .int 0, .int 0, .int 0, .int 0, .int 0, .int 0, .null, .int 0, .int 0, .null, .int 0, .null, .null, .null, .null, .null, .int 0, .null, .int 0, .int 0, .null, .null, .null, .int 0, .int 0] j := by decide +kernel
set_option maxHeartbeats 4000000 in
set_option maxRecDepth 100000 in
theorem whole_start {p : Program} {e : Env} {s : State} {m : MethodId} {below : List Frame} {meth : Method} {c : Code} (l : Launch) (hflags : l.flags = flags0) {b L : Nat} {xs : Nat → Int32} (hL : L ≤ 3072) (C0 : lw_At p s m meth c b L xs) : W p l e room_1 s m #[Value.ref b] below meth c s.heap [] 0 0 (lw_Z below #[Value.ref b] s) (entryFrame m ([Value.ref b] : List Value).toArray 4) := by
  obtain ⟨hx, hb, hr, hml, hown, hts, hX, hbl, hlocks, hgv⟩ := id C0
  obtain ⟨D, cA, hcK⟩ := cK_start hts
  obtain ⟨adK, adV, t, hStr⟩ := gStr_start (A := fun q : Nat => s.heap.size ≤ q) hts hgv (fun a h => Nat.not_le.mpr h)
  obtain ⟨wm, hwm, hpure⟩ := pure_law
  have hTBL : ∀ w ∈ TBL, w.before #[Value.ref b] s = true := fun w hw => hts w (TBL_in hw)
  have C : cC p c code m s #[Value.ref b] 4 RL D cA (adSt adK adV t b) (fun q : Nat => s.heap.size ≤ q) := ⟨hx, hb, hml, hown, hTBL, hcK, hStr, fun q h => h⟩
  have key : cW p l e room_1 s m #[Value.ref b] below meth c D (fun q : Nat => s.heap.size ≤ q) 4 0 0 (lw_Z below #[Value.ref b] s) 0 [(0, .ref b)] [] [] := by
    refine cn_new (ci := 10) (fs := [.null, .null, .null, .null, .null, .null, .null, .null, .null, .null, .null, .null, .null, .int 0, .int 0, .int 0, .long 0, .long 0]) C rfl inw_X10 tyX10_ok (TBL_of 160 (by decide +kernel) (by decide +kernel) : Cond.classLink RL 7 RX10 ∈ TBL) (TBL_of 161 (by decide +kernel) (by decide +kernel) : Cond.instantiable RX10 18 ∈ TBL) ki_X10 df_X10 ⟨by decide, by decide⟩ (gdec dt_L_law 0 rfl) (fun qx => ?_)
    refine cn_dup C (gdec dt_L_law 1 rfl) rfl ?_
    refine cn_inv (wr := []) [] [.ref qx] [] C (cc_X10_init l D cA _ qx) (q0 := 0) rfl rfl (by decide) (by decide) kT_X10_init kl_L_9 kim_X10_init rfl rfl rfl ⟨by decide, by decide⟩ ⟨by decide, by decide⟩ (Nat.le_of_ble_eq_true rfl) (gdec dt_L_law 2 rfl) ?_
    intro w1 hw1
    obtain ⟨qX, hqx, ew1⟩ := hw1
    rw [ew1]
    clear ew1 w1
    refine cn_astore_n C (gdec dt_L_law 3 rfl) (i := 1) rfl (by decide) (lo2 := [(1, .ref qx), (0, .ref b)]) rfl ?_
    refine cn_new (ci := 11) (fs := [.null, .null, .int 0, .long 0, .long 0, .null, .null, .null, .null, .null, .int 0, .int 0, .int 0, .int 0, .int 0, .int 0, .int 0, .int 0, .int 0, .int 0, .int 0, .null, .int 0, .int 0, .null, .int 0, .null, .null, .null, .null, .null, .int 0, .null, .int 0, .int 0, .null, .null, .null, .int 0, .int 0]) C rfl inw_X11 tyX11_ok (TBL_of 1491 (by decide +kernel) (by decide +kernel) : Cond.classLink RL 10 RX11 ∈ TBL) (TBL_of 1492 (by decide +kernel) (by decide +kernel) : Cond.instantiable RX11 40 ∈ TBL) ki_X11 df_X11 ⟨by decide, by decide⟩ (gdec dt_L_law 4 rfl) (fun qm => ?_)
    refine cn_dup C (gdec dt_L_law 5 rfl) rfl ?_
    refine cn_inv (wr := gM cA (adL qX (adSt adK adV t b)) shX wX0) [] [.ref qm] (List.range 138) C (cc_X11_init l D cA _ qm wm hwm) (q0 := 138) ?_ ?_ (by decide) (by decide) kT_X11_init kl_L_12 kim_X11_init rfl rfl rfl ⟨by decide, by decide⟩ ⟨by decide, by decide⟩ (Nat.le_of_ble_eq_true rfl) (gdec dt_L_law 6 rfl) ?_
    · rw [List.nil_append, List.getElem?_append_right (by rw [gM_len, shX_n]; omega), gM_len, shX_n]; rfl
    · apply List.ext_getElem?
      intro k
      rw [List.getElem?_map, List.getElem?_map, List.nil_append]
      by_cases hk : k < 138
      · rw [List.getElem?_range hk, List.getElem?_eq_getElem (by rw [gM_len, shX_n]; exact hk)]
        show some ((gM _ _ _ _ ++ _)[k]?) = _
        rw [List.getElem?_append_left (by rw [gM_len, shX_n]; exact hk), List.getElem?_eq_getElem (by rw [gM_len, shX_n]; exact hk)]
        rfl
      · rw [List.getElem?_eq_none (by rw [List.length_range]; omega), List.getElem?_eq_none (by rw [gM_len, shX_n]; omega)]
        rfl
    intro w2 hw2
    obtain ⟨qM, hqm, ew2⟩ := hw2
    rw [ew2]
    clear ew2 w2
    refine cn_astore_n C (gdec dt_L_law 7 rfl) (i := 2) rfl (by decide) (lo2 := [(2, .ref qm), (1, .ref qx), (0, .ref b)]) rfl ?_
    refine cn_iconst C (gdec dt_L_law 8 rfl) (v := 0) (by decide) ?_
    refine cn_istore_n C (gdec dt_L_law 9 rfl) (i := 3) rfl (by decide) (lo2 := [(3, .int 0), (2, .ref qm), (1, .ref qx), (0, .ref b)]) rfl ?_
    refine cn_widen (k := 600000) (n := 7302250) (Nat.le_of_ble_eq_true rfl) (Nat.le_of_ble_eq_true rfl) ?_
    have eM := gM_app (cA := cA) (ad := adF qX qM (adSt adK adV t b)) (ad1 := adL qX (adSt adK adV t b)) (ad2 := adL qM (adSt adK adV t b)) (w := gApp 138 wX0 wm) (w1 := wX0) (w2 := wm) shX_wf shM_wf
      (fun k hk => if_pos (by rw [shX_n] at hk; exact hk)) (fun k hk => by rw [shM_n] at hk; rw [shX_n]; unfold adF; rw [if_neg (by omega), if_pos (by omega), Nat.add_sub_cancel_left])
      (fun k hk => by rw [shX_n] at hk; exact ⟨funext fun j => if_pos hk, funext fun j => if_pos hk⟩) (fun k hk => by rw [shX_n]; exact ⟨funext fun j => by show (if 138 + k < 138 then _ else _) = _; rw [if_neg (by omega), Nat.add_sub_cancel_left], funext fun j => by show (if 138 + k < 138 then _ else _) = _; rw [if_neg (by omega), Nat.add_sub_cancel_left]⟩)
    rw [← shXM_eq] at eM
    refine cn_ws eM ?_
    intro H locs ls hP hD hS hl
    have hin : gInj (adF qX qM (adSt adK adV t b)) shXM.length := fun i j hi hj h => hD.1 i j _ _ (gM_at (List.getElem?_eq_getElem hi)) (gM_at (List.getElem?_eq_getElem hj)) h
    have hnew : ∀ i, i < shXM.length → s.heap.size ≤ adF qX qM (adSt adK adV t b) i := fun i hi => hD.2 i _ (gM_at (List.getElem?_eq_getElem hi))
    have hb6 : adF qX qM (adSt adK adV t b) 6000 = b := rfl
    have hgA : ∀ a : Nat, gA (adF qX qM (adSt adK adV t b)) shXM.length a → s.heap.size ≤ a := by
      rintro a ⟨i, hi, rfl⟩
      exact hnew i hi
    have hG : gC p c code meth m s #[Value.ref b] 4 ret RL D cA (adF qX qM (adSt adK adV t b)) shXM := ⟨hx, hb, hml, hr, hlocks, hown, hTBL, hcK.1, (gStr_ad (fun i hi => by unfold adF; rw [if_neg (by omega), if_neg (by omega)]) hStr).sub hgA, hin⟩
    refine va_forget (fun q hq => hS.2.2 q hq) ?_
    have hp := hpure xs L hL
    refine L_L_law_18 (ad := adF qX qM (adSt adK adV t b)) (q := ()) hG hX ⟨hbl, fun h => Nat.not_le.mpr hbl (hgA _ h)⟩ hnew FU 0 (gApp 138 wX0 wm) hp H [] ls hP ⟨hS.1, fun q h1 _ => hS.2.1 q h1 (Nat.not_le.mpr h1), fun q h => by cases h⟩ ?_
    have e0 : adF qX qM (adSt adK adV t b) 0 = qx := hqx
    have e1 : adF qX qM (adSt adK adV t b) 138 = qm := hqm
    have e2 : glo (adF qX qM (adSt adK adV t b)) [(0, .ref 6000), (1, .ref 0), (2, .ref 138), (3, .int 0)] = [(0, .ref b), (1, .ref qx), (2, .ref qm), (3, .int 0)] := by
      show [(0, Value.ref (adF qX qM (adSt adK adV t b) 6000)), (1, Value.ref (adF qX qM (adSt adK adV t b) 0)), (2, Value.ref (adF qX qM (adSt adK adV t b) 138)), (3, Value.int 0)] = _
      rw [e0, e1, hb6]
    rw [e2]
    exact lv_sub hl [3, 2, 1, 0] rfl
  have hl := lv_entry ([.ref b]) (n := 4) (Nat.le_of_ble_eq_true rfl)
  rw [lg_entry_eq]
  exact key s.heap [] _ (fun k q h => by simp at h) ⟨fun i j p q h => by simp at h, fun k q h => by simp at h⟩ va_S.rf hl
set_option maxHeartbeats 4000000 in
theorem lw_walk (l : Launch) (hflags : l.flags = flags0) (b : Addr) (xs : List Int32) : MetFree l x (headSpec (Jvm.Cond.code x code maxLocals ret :: tables_1) room_1) (lw_P b xs) (fun _ _ _ _ _ => True) lw_Q := by
  refine MetFree.of_bodyS (code := code) (maxLocals := maxLocals) (ret := ret) (by decide) ?_ ?_
  · intro args s m h hn
    obtain ⟨meth, c, h1, h2, h3, h4, h5, h6, -, -⟩ := Cond.code_spec hn (atoms_spec (ws := Jvm.Cond.code x code maxLocals ret :: tables_1) h _ List.mem_cons_self)
    exact ⟨meth, c, h1, h2, h3, h4, h5, h6⟩
  · intro p e s m args below meth c s₁ B hml0 hP _
    obtain ⟨rfl, hx, hbd, hgv⟩ := hP
    obtain ⟨scr, harrAt, hlist, hof, hsmall⟩ := hx
    obtain ⟨hcb, hkn, -, -⟩ := State.arrayAt?_spec harrAt
    have hown : s.vm.findClass R_law = some m.cls := findClass_of_methodNamed B.named
    have hts0 : ∀ c ∈ (Jvm.Cond.code x code maxLocals ret :: tables_1), c.before #[Value.ref b] s = true := atoms_spec (ws := Jvm.Cond.code x code maxLocals ret :: tables_1) B.pre
    have hts : ∀ w ∈ lw_tbl, w.before #[Value.ref b] s = true := k2_hts_sels lw_privs (fun w hw => hts0 w (List.mem_cons_of_mem _ hw)) lw_privs_ok
    have hml : c.maxLocals = 4 := B.maxLocals_eq (hts0 _ List.mem_cons_self)
    have X₀ : Stand p l e room_1 s m #[Value.ref b] below meth c s₁ [] 0 0 := Stand.of_body B
    have hh0 : s₁.heap = s.heap := by rw [B.state]; rfl
    have hsz : scr.slots.size = xs.length := by rw [← Array.length_toList, hlist, List.length_map]
    have hval : ∀ j : Nat, j < xs.length → scr.slots[j]? = some (.int (xs.getD j 0)) := fun j hj => by
      rw [← Array.getElem?_toList, hlist]
      simp [hj]
    have hbl : b < s.heap.size := (Array.getElem?_eq_some_iff.mp hcb).1
    have hX : va_X b xs.length (fun j => xs.getD j 0) s s.heap := ⟨scr, hcb, hof, hkn, hsz, hval⟩
    have K : W p l e room_1 s m #[Value.ref b] below meth c s₁.heap [] 0 0 (lw_Z below #[Value.ref b] s) (entryFrame m ([Value.ref b] : List Value).toArray 4) := by
      rw [hh0]
      exact whole_start l hflags hbd ⟨B.exec, B.bytes, B.returns, hml, hown, hts, hX, hbl, B.notSynchronized, hgv⟩
    obtain ⟨t, a1, o, b1, b2, b3⟩ := K s₁ rfl X₀
    exact ⟨t, o, a1, b1, b2, b3⟩
theorem lw_pre_spec {args : Array Value} {s : State} (h : (Jvm.Cond.and given_1 narrow_1).before args s = true) (hr : rest_1_c.before args s = true) : ∃ (b : Addr) (xs : List Int32), lw_P b xs args s := by
  have hs := flat_of_before _ h
  have hq := flat_of_before _ hr
  have hc : (Cond.count 1).before args s = true := hs _ (by decide +kernel)
  have harr : (Cond.arrayOf (.arg 0) .int).before args s = true := hs _ (by decide +kernel)
  have hle : (Cond.le (.length (.arg 0)) (.int 3072)).before args s = true := hs _ (by decide +kernel)
  have hlen : (Cond.isInt (.length (.arg 0))).before args s = true := hq _ (by decide +kernel)
  have hall : (Cond.all (.arg 0) (.isInt (.elem (.arg 0) (.index 0)))).before args s = true := hq _ (by decide +kernel)
  obtain ⟨b, xs, hb, hx⟩ := State.ints_of_pre rfl harr hlen hall
  have hsm : xs.length < 2 ^ 31 := hx.choose_spec.2.2.2
  have hev : (Term.length (.arg 0)).eval args s none [] s = some (.int xs.length.toInt32) := hx.length_eval hb
  have hv := Cond.le_ints hev (show (Term.int 3072).eval args s none [] s = some (.int 3072) from rfl)
  have hd : xs.length.toInt32 ≤ 3072 := by
    simpa [Cond.before, Cond.holds, hv] using hle
  have hN : xs.length ≤ 3072 := (Int32.ofNat_le_ofNat hsm (by decide)).mp (show Int32.ofNat xs.length ≤ Int32.ofNat 3072 from hd)
  exact ⟨b, xs, Cond.one_arg hc (show args[0]? = some (.ref b) from hb), hx, hN, h⟩
theorem lw_comes (l : Launch) (hflags : l.flags = flags0) : Comes l x (Jvm.Cond.code x code maxLocals ret :: tables_1) room_1 (fun tb e args s => Calls_1 tb e args s ∧ rest_1 tb e args s ∧ Pre_1 tb e args s)
    (fun _ _ args s o t => lw_Q args s o t) := by
  intro p e ha hc hk s m args below hf hfit hheap happ hpre
  obtain ⟨b, xs, hP⟩ := lw_pre_spec hpre.2.2 hpre.2.1
  obtain ⟨k, o, h1, h2, h3, hQ⟩ := lw_walk l hflags b xs p e ha hc hk s m args below hf ((Spec.applies_iff_loose hf).mp happ).1 hP trivial
  exact ⟨k, o, h1, h2, h3, hQ⟩
theorem lw_frame {s t : State} {o : Outcome} {args : Array Value} (h : Framed s o t [] 600000 7302250) :
    Framed s o t (fieldLocs frame_1_writes args s ++ arrayLocs frame_1_arrays args s ++ staticLocs frame_1_statics s) 600000 7302250 := h
theorem lw_limb (L : Cond) (hL : ∀ (args : Array Value) (s t : State), L.after args s (.returned (some (.int 1))) t = true) :
    ArmFor flags0 classFile x code maxLocals ret World_1 tables_1 room_1 Calls_1 rest_1 Pre_1
      (fun tb e a s o t => postC L tb e a s o t ∧ Framed s o t (fieldLocs frame_1_writes a s ++ arrayLocs frame_1_arrays a s ++ staticLocs frame_1_statics s) 600000 7302250) := by
  intro l hflags _ _ p e ha hc hk s m args below hf hfit hheap happ hpre
  obtain ⟨k, o, h1, h2, h3, rfl, hF⟩ := lw_comes l hflags p e ha hc hk s m args below hf hfit hheap happ hpre
  exact ⟨k, _, h1, h2, h3, hL args s _, lw_frame hF⟩
theorem i_vc : Claimed_1_1 ∧ Claimed_1_2 := ⟨lw_limb limb_1_1 (fun args s t => by simp [limb_1_1, Cond.after, Cond.holds, Cond.value]), lw_limb limb_1_2 (fun args s t => Cond.after_iff.mpr (by
  first | (rw [show limb_1_2 = Cond.eq .result (.int 1) from rfl, Cond.eq_ints (x := 1) (y := 1) rfl rfl]; simp; done) | (simp [limb_1_2, Cond.value, Term.eval]; done)))⟩

