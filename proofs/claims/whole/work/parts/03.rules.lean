def txW : List Int32 := [111, 100, 100, 115, 32, 99, 97, 115, 104, 32, 99, 111, 114, 110, 101, 114, 32, 115, 116, 105, 108, 108, 32, 114, 97, 110, 107, 32, 97, 116, 32, 112, 97, 121, 32, 99, 108, 101, 114, 107, 32, 105, 110, 32, 115, 101, 114, 118, 101, 100, 32, 103, 114, 101, 121, 32, 115, 104, 97, 109, 32, 99, 108, 105, 101, 110, 116, 32, 115, 117, 109, 32, 110, 101, 114, 118, 101, 32, 121, 101, 97, 114, 32, 109, 111, 118, 101, 32, 115, 119, 97, 112, 32, 102, 97, 110, 32, 100, 117, 115, 116, 32, 108, 111, 111, 107, 32, 114, 117, 110, 32, 97, 110, 121, 32, 119, 104, 101, 110, 32, 108, 111, 111, 107, 115, 32, 108, 111, 111, 112, 32, 101, 110, 100, 32, 115, 116, 111, 112, 32]
def txK : List Int32 := [32, 111, 100, 100, 115, 32, 99, 97, 115, 104, 32, 99, 111, 114, 110, 101, 114, 32, 114, 97, 110, 107, 32, 99, 108, 101, 114, 107, 32, 99, 108, 105, 101, 110, 116, 32, 115, 116, 105, 108, 108, 32, 97, 116, 32, 112, 97, 121, 32, 105, 110, 32, 115, 101, 114, 118, 101, 100, 32, 103, 114, 101, 121, 32, 115, 104, 97, 109, 32, 115, 117, 109, 32, 110, 101, 114, 118, 101, 32, 121, 101, 97, 114, 32, 109, 111, 118, 101, 32, 115, 119, 97, 112, 32, 102, 97, 110, 32, 100, 117, 115, 116, 32, 108, 111, 111, 107, 32, 114, 117, 110, 32, 97, 110, 121, 32, 119, 104, 101, 110, 32, 108, 111, 111, 112, 32, 101, 110, 100, 32, 115, 116, 111, 112, 32, 108, 111, 111, 107, 115, 32]
/-- the two texts of the classes at the cells 5000, 5001, and what String's own methods look at -/
def gStr (ad : Nat → Nat) (A : Nat → Prop) (U : State) (H : Heap) : Prop :=
  vk_S 2 [140, 141] [txW, txK] (fun i => ad (5000 + i)) (fun i => ad (5100 + i)) A U H ∧ va_Z "java/lang/String" "COMPACT_STRINGS" "Z" (.int 1) A U H ∧ (va_Z "jdk/internal/util/Preconditions" "SIOOBE_FORMATTER" "Ljava/util/function/BiFunction;" .null A U H ∨ va_Z "jdk/internal/util/Preconditions" "SIOOBE_FORMATTER" "Ljava/util/function/BiFunction;" (.ref (ad 5200)) A U H) ∧
  vk_R RX8 109 "odds cash corner still rank at pay clerk in served grey sham client sum nerve year move swap fan dust look run any when looks loop end stop " (ad 5000) U ∧
  vk_R RX11 181 " odds cash corner rank clerk client still at pay in served grey sham sum nerve year move swap fan dust look run any when loop end stop looks " (ad 5001) U
theorem gStr.go {ad : Nat → Nat} {A B : Nat → Prop} {s U : State} (h : gStr ad A s s.heap) (hW : s.WarmedH U.vm) (hq : ∀ a : Nat, a < s.heap.size → ¬ A a → U.heap[a]? = s.heap[a]?) (hB : ∀ q, B q → A q) : gStr ad B U U.heap := by
  obtain ⟨h1, h2, h3, h4, h5⟩ := h
  exact ⟨((vk_S.moved hW.alike h1).kept hq).narrow hB, ((va_Z.moved hW.alike h2).kept hq).narrow hB, h3.imp (fun h => ((va_Z.moved hW.alike h).kept hq).narrow hB) (fun h => ((va_Z.moved hW.alike h).kept hq).narrow hB), vk_R.warm hW h4, vk_R.warm hW h5⟩
/-- a method's frame: the machine, the code, the tables' words, what is known of classes and texts at its entry -/
def gC (p : Program) (c : Code) (cc : ByteArray) (meth : Method) (m : MethodId) (s : State) (args : Array Value) (nL : Nat) (ret : Option FieldType) (own : String) (D : va_G) (cA ad : Nat → Nat) (sh : GS) : Prop :=
  p.tables.exec = Jvm.exec ∧ c.code = cc ∧ c.maxLocals = nL ∧ meth.sig.returnType = ret ∧ meth.locks = false ∧ s.vm.findClass own = some m.cls ∧ (∀ w ∈ TBL, w.before args s = true) ∧ gK D cA s ∧ gStr ad (gA ad sh.length) s s.heap ∧ gInj ad sh.length
/-- the machine, now at pc with these locals, this operand stack, this world, comes to its end -/
def gW (p : Program) (l : Launch) (e : Env) (R : Room) (s : State) (m : MethodId) (args : Array Value) (below : List Frame) (meth : Method) (c : Code) (D : va_G) (cA ad : Nat → Nat) (sh : GS) (nL kc ks : Nat) (Q : State → Prop) (pc : Nat) (lo : List (Nat × Value)) (st : List Value) (w : GW) : Prop :=
  ∀ (H : Heap) (locs : List Loc) (ls : Array Slot), va_P D vwCl (gM cA ad sh w) H → va_S (gA ad sh.length) s.heap H locs → lv_has ls nL (glo ad lo) → W p l e R s m args below meth c H locs kc ks Q (F0 m pc ls (st.map (gconc ad)))
theorem glk {ls : Array Slot} {nL : Nat} {ad : Nat → Nat} {lo : List (Nat × Value)} {i : Nat} {v : Value} (hl : lv_has ls nL (glo ad lo)) (h : lo.lookup i = some v) : ls[i]? = some (.val (gconc ad v)) := by
  refine hl.2.2 (i, gconc ad v) (List.mem_map.mpr ⟨(i, v), ?_, rfl⟩)
  clear hl
  induction lo with
  | nil => simp at h
  | cons q lo ih =>
    obtain ⟨j, x⟩ := q
    rw [List.lookup_cons] at h
    by_cases hij : i = j
    · subst hij
      simp at h
      subst h
      exact List.mem_cons_self
    · have : (i == j) = false := by simpa using hij
      rw [this] at h
      exact List.mem_cons_of_mem _ (ih h)
theorem glo_filter (ad : Nat → Nat) (lo : List (Nat × Value)) (f : Nat → Nat → Bool) : (glo ad lo).filter (fun q => f q.1 q.2.category) = glo ad (lo.filter (fun q => f q.1 q.2.category)) := by
  induction lo with
  | nil => rfl
  | cons q lo ih =>
    show ((q.1, gconc ad q.2) :: glo ad lo).filter _ = _
    rw [List.filter_cons, List.filter_cons, ih]
    simp only [gconc_cat]
    split <;> rfl
theorem lv_args_map (ad : Nat → Nat) : ∀ (vs : List Value) (k : Nat), lv_args k (vs.map (gconc ad)) = glo ad (lv_args k vs) := by
  intro vs
  induction vs with
  | nil => intro k; rfl
  | cons v vs ih =>
    intro k
    rw [List.map_cons]
    unfold lv_args
    rw [gconc_cat, ih]
    rfl
section GR
variable {p : Program} {l : Launch} {e : Env} {R : Room} {s : State} {m : MethodId} {args : Array Value} {below : List Frame} {meth : Method} {c : Code} {D : va_G} {cA ad : Nat → Nat} {sh : GS} {nL kc ks : Nat} {Q : State → Prop} {cc : ByteArray} {ret : Option FieldType} {own : String} {pc : Nat} {lo : List (Nat × Value)} {st : List Value} {w : GW}
theorem g_iconst {n : Int} {v : Int32} (C : gC p c cc meth m s args nL ret own D cA ad sh) (hd : decode cc pc = .ok (.iconst n, 1)) (hv : Int32.ofInt n = v) (k : gW p l e R s m args below meth c D cA ad sh nL kc ks Q  (pc + 1) lo (.int v :: st) w) : gW p l e R s m args below meth c D cA ad sh nL kc ks Q  pc lo st w :=
  fun H locs ls hP hS hl => lv_iconst C.1 C.2.1 hd hv (k H locs ls hP hS hl)
theorem g_bipush {n : Int} {v : Int32} (C : gC p c cc meth m s args nL ret own D cA ad sh) (hd : decode cc pc = .ok (.bipush n, 2)) (hv : (Int8.ofInt n).toInt32 = v) (k : gW p l e R s m args below meth c D cA ad sh nL kc ks Q  (pc + 2) lo (.int v :: st) w) : gW p l e R s m args below meth c D cA ad sh nL kc ks Q  pc lo st w :=
  fun H locs ls hP hS hl => lv_bipush C.1 C.2.1 hd hv (k H locs ls hP hS hl)
theorem g_sipush {n : Int} {v : Int32} (C : gC p c cc meth m s args nL ret own D cA ad sh) (hd : decode cc pc = .ok (.sipush n, 3)) (hv : (Int16.ofInt n).toInt32 = v) (k : gW p l e R s m args below meth c D cA ad sh nL kc ks Q  (pc + 3) lo (.int v :: st) w) : gW p l e R s m args below meth c D cA ad sh nL kc ks Q  pc lo st w :=
  fun H locs ls hP hS hl => lv_sipush C.1 C.2.1 hd hv (k H locs ls hP hS hl)
theorem g_lconst {n : Fin 2} {v : Int64} (C : gC p c cc meth m s args nL ret own D cA ad sh) (hd : decode cc pc = .ok (.lconst n, 1)) (hv : Int64.ofNat (n : Nat) = v) (k : gW p l e R s m args below meth c D cA ad sh nL kc ks Q  (pc + 1) lo (.long v :: st) w) : gW p l e R s m args below meth c D cA ad sh nL kc ks Q  pc lo st w :=
  fun H locs ls hP hS hl => lv_lconst C.1 C.2.1 hd hv (k H locs ls hP hS hl)
theorem g_iload_n {n : Fin 4} {i : Nat} {x : Int32} (C : gC p c cc meth m s args nL ret own D cA ad sh) (hd : decode cc pc = .ok (.iload_n n, 1)) (hi : (n : Nat) = i) (hk : lo.lookup i = some (.int x)) (k : gW p l e R s m args below meth c D cA ad sh nL kc ks Q  (pc + 1) lo (.int x :: st) w) : gW p l e R s m args below meth c D cA ad sh nL kc ks Q  pc lo st w :=
  fun H locs ls hP hS hl => lv_iload_n C.1 C.2.1 hd hi (glk hl hk) (k H locs ls hP hS hl)
theorem g_iload {i : Nat} {x : Int32} (C : gC p c cc meth m s args nL ret own D cA ad sh) (hd : decode cc pc = .ok (.iload i, 2)) (hk : lo.lookup i = some (.int x)) (k : gW p l e R s m args below meth c D cA ad sh nL kc ks Q  (pc + 2) lo (.int x :: st) w) : gW p l e R s m args below meth c D cA ad sh nL kc ks Q  pc lo st w :=
  fun H locs ls hP hS hl => lv_iload C.1 C.2.1 hd (glk hl hk) (k H locs ls hP hS hl)
theorem g_istore_n {n : Fin 4} {i : Nat} {x : Int32} {lo2 : List (Nat × Value)} (C : gC p c cc meth m s args nL ret own D cA ad sh) (hd : decode cc pc = .ok (.istore_n n, 1)) (hi : (n : Nat) = i)   (hn : i < nL) (hlo : (i, Value.int x) :: lo.filter (fun q => !(q.1 == i) && !(q.1 + 1 == i && q.2.category == 2)) = lo2) (k : gW p l e R s m args below meth c D cA ad sh nL kc ks Q  (pc + 1) lo2 st w) : gW p l e R s m args below meth c D cA ad sh nL kc ks Q  pc lo (.int x :: st) w :=
  fun H locs ls hP hS hl => lv_istore_n C.1 C.2.1 hd hi hl hn (lv' := glo ad lo2) (by rw [← hlo]; exact congrArg (List.cons _) (glo_filter ad lo (fun a b => !(a == i) && !(a + 1 == i && b == 2)))) (fun ls2 hl2 => k H locs ls2 hP hS hl2)
theorem g_istore {i : Nat} {x : Int32} {lo2 : List (Nat × Value)} (C : gC p c cc meth m s args nL ret own D cA ad sh) (hd : decode cc pc = .ok (.istore i, 2)) (hn : i < nL) (hlo : (i, Value.int x) :: lo.filter (fun q => !(q.1 == i) && !(q.1 + 1 == i && q.2.category == 2)) = lo2) (k : gW p l e R s m args below meth c D cA ad sh nL kc ks Q  (pc + 2) lo2 st w) : gW p l e R s m args below meth c D cA ad sh nL kc ks Q  pc lo (.int x :: st) w :=
  fun H locs ls hP hS hl => lv_istore C.1 C.2.1 hd hl hn (lv' := glo ad lo2) (by rw [← hlo]; exact congrArg (List.cons _) (glo_filter ad lo (fun a b => !(a == i) && !(a + 1 == i && b == 2)))) (fun ls2 hl2 => k H locs ls2 hP hS hl2)
theorem g_lload_n {n : Fin 4} {i : Nat} {x : Int64} (C : gC p c cc meth m s args nL ret own D cA ad sh) (hd : decode cc pc = .ok (.lload_n n, 1)) (hi : (n : Nat) = i) (hk : lo.lookup i = some (.long x)) (k : gW p l e R s m args below meth c D cA ad sh nL kc ks Q  (pc + 1) lo (.long x :: st) w) : gW p l e R s m args below meth c D cA ad sh nL kc ks Q  pc lo st w :=
  fun H locs ls hP hS hl => lv_lload_n C.1 C.2.1 hd hi (glk hl hk) (k H locs ls hP hS hl)
theorem g_lload {i : Nat} {x : Int64} (C : gC p c cc meth m s args nL ret own D cA ad sh) (hd : decode cc pc = .ok (.lload i, 2)) (hk : lo.lookup i = some (.long x)) (k : gW p l e R s m args below meth c D cA ad sh nL kc ks Q  (pc + 2) lo (.long x :: st) w) : gW p l e R s m args below meth c D cA ad sh nL kc ks Q  pc lo st w :=
  fun H locs ls hP hS hl => lv_lload C.1 C.2.1 hd (glk hl hk) (k H locs ls hP hS hl)
theorem g_lstore_n {n : Fin 4} {i : Nat} {x : Int64} {lo2 : List (Nat × Value)} (C : gC p c cc meth m s args nL ret own D cA ad sh) (hd : decode cc pc = .ok (.lstore_n n, 1)) (hi : (n : Nat) = i)   (hn : i + 1 < nL) (hlo : (i, Value.long x) :: lo.filter (fun q => !(q.1 == i) && (!(q.1 == i + 1) && !(q.1 + 1 == i && q.2.category == 2))) = lo2) (k : gW p l e R s m args below meth c D cA ad sh nL kc ks Q  (pc + 1) lo2 st w) : gW p l e R s m args below meth c D cA ad sh nL kc ks Q  pc lo (.long x :: st) w :=
  fun H locs ls hP hS hl => lv_lstore_n C.1 C.2.1 hd hi hl hn (lv' := glo ad lo2) (by rw [← hlo]; exact congrArg (List.cons _) (glo_filter ad lo (fun a b => !(a == i) && (!(a == i + 1) && !(a + 1 == i && b == 2))))) (fun ls2 hl2 => k H locs ls2 hP hS hl2)
theorem g_lstore {i : Nat} {x : Int64} {lo2 : List (Nat × Value)} (C : gC p c cc meth m s args nL ret own D cA ad sh) (hd : decode cc pc = .ok (.lstore i, 2)) (hn : i + 1 < nL) (hlo : (i, Value.long x) :: lo.filter (fun q => !(q.1 == i) && (!(q.1 == i + 1) && !(q.1 + 1 == i && q.2.category == 2))) = lo2) (k : gW p l e R s m args below meth c D cA ad sh nL kc ks Q  (pc + 2) lo2 st w) : gW p l e R s m args below meth c D cA ad sh nL kc ks Q  pc lo (.long x :: st) w :=
  fun H locs ls hP hS hl => lv_lstore C.1 C.2.1 hd hl hn (lv' := glo ad lo2) (by rw [← hlo]; exact congrArg (List.cons _) (glo_filter ad lo (fun a b => !(a == i) && (!(a == i + 1) && !(a + 1 == i && b == 2))))) (fun ls2 hl2 => k H locs ls2 hP hS hl2)
theorem g_aload_n {n : Fin 4} {i : Nat} {x : Nat} (C : gC p c cc meth m s args nL ret own D cA ad sh) (hd : decode cc pc = .ok (.aload_n n, 1)) (hi : (n : Nat) = i) (hk : lo.lookup i = some (.ref x)) (k : gW p l e R s m args below meth c D cA ad sh nL kc ks Q  (pc + 1) lo (.ref x :: st) w) : gW p l e R s m args below meth c D cA ad sh nL kc ks Q  pc lo st w :=
  fun H locs ls hP hS hl => lv_aload_n C.1 C.2.1 hd hi (glk hl hk) (k H locs ls hP hS hl)
theorem g_aload {i : Nat} {x : Nat} (C : gC p c cc meth m s args nL ret own D cA ad sh) (hd : decode cc pc = .ok (.aload i, 2)) (hk : lo.lookup i = some (.ref x)) (k : gW p l e R s m args below meth c D cA ad sh nL kc ks Q  (pc + 2) lo (.ref x :: st) w) : gW p l e R s m args below meth c D cA ad sh nL kc ks Q  pc lo st w :=
  fun H locs ls hP hS hl => lv_aload C.1 C.2.1 hd (glk hl hk) (k H locs ls hP hS hl)
theorem g_astore_n {n : Fin 4} {i : Nat} {x : Nat} {lo2 : List (Nat × Value)} (C : gC p c cc meth m s args nL ret own D cA ad sh) (hd : decode cc pc = .ok (.astore_n n, 1)) (hi : (n : Nat) = i)   (hn : i < nL) (hlo : (i, Value.ref x) :: lo.filter (fun q => !(q.1 == i) && !(q.1 + 1 == i && q.2.category == 2)) = lo2) (k : gW p l e R s m args below meth c D cA ad sh nL kc ks Q  (pc + 1) lo2 st w) : gW p l e R s m args below meth c D cA ad sh nL kc ks Q  pc lo (.ref x :: st) w :=
  fun H locs ls hP hS hl => lv_astore_n C.1 C.2.1 hd hi hl hn (lv' := glo ad lo2) (by rw [← hlo]; exact congrArg (List.cons _) (glo_filter ad lo (fun a b => !(a == i) && !(a + 1 == i && b == 2)))) (fun ls2 hl2 => k H locs ls2 hP hS hl2)
theorem g_astore {i : Nat} {x : Nat} {lo2 : List (Nat × Value)} (C : gC p c cc meth m s args nL ret own D cA ad sh) (hd : decode cc pc = .ok (.astore i, 2)) (hn : i < nL) (hlo : (i, Value.ref x) :: lo.filter (fun q => !(q.1 == i) && !(q.1 + 1 == i && q.2.category == 2)) = lo2) (k : gW p l e R s m args below meth c D cA ad sh nL kc ks Q  (pc + 2) lo2 st w) : gW p l e R s m args below meth c D cA ad sh nL kc ks Q  pc lo (.ref x :: st) w :=
  fun H locs ls hP hS hl => lv_astore C.1 C.2.1 hd hl hn (lv' := glo ad lo2) (by rw [← hlo]; exact congrArg (List.cons _) (glo_filter ad lo (fun a b => !(a == i) && !(a + 1 == i && b == 2)))) (fun ls2 hl2 => k H locs ls2 hP hS hl2)
theorem g_iinc {i kk : Nat} {n : Int} {x v : Int32} {lo2 : List (Nat × Value)} (C : gC p c cc meth m s args nL ret own D cA ad sh) (hd : decode cc pc = .ok (.iinc i n, 3)) (hk : lo[kk]? = some (i, .int x)) (hv : x + Int32.ofInt n = v) (hn : i < nL) (hlo : (i, Value.int v) :: lo.filter (fun q => !(q.1 == i) && !(q.1 + 1 == i && q.2.category == 2)) = lo2) (k : gW p l e R s m args below meth c D cA ad sh nL kc ks Q  (pc + 3) lo2 st w) : gW p l e R s m args below meth c D cA ad sh nL kc ks Q  pc lo st w :=
  fun H locs ls hP hS hl => lv_iinc C.1 C.2.1 hd hl (k := kk) (by unfold glo; rw [List.getElem?_map, hk]; rfl) hv hn (lv' := glo ad lo2) (by rw [← hlo]; exact congrArg (List.cons _) (glo_filter ad lo (fun a b => !(a == i) && !(a + 1 == i && b == 2)))) (fun ls2 hl2 => k H locs ls2 hP hS hl2)
theorem g_iadd {x y : Int32} (C : gC p c cc meth m s args nL ret own D cA ad sh) (hd : decode cc pc = .ok (.iadd, 1))  (k : gW p l e R s m args below meth c D cA ad sh nL kc ks Q  (pc + 1) lo (.int (x + y) :: st) w) : gW p l e R s m args below meth c D cA ad sh nL kc ks Q  pc lo (.int y :: .int x :: st) w :=
  fun H locs ls hP hS hl => lv_iadd C.1 C.2.1 hd (k H locs ls hP hS hl)
theorem g_isub {x y : Int32} (C : gC p c cc meth m s args nL ret own D cA ad sh) (hd : decode cc pc = .ok (.isub, 1))  (k : gW p l e R s m args below meth c D cA ad sh nL kc ks Q  (pc + 1) lo (.int (x - y) :: st) w) : gW p l e R s m args below meth c D cA ad sh nL kc ks Q  pc lo (.int y :: .int x :: st) w :=
  fun H locs ls hP hS hl => lv_isub C.1 C.2.1 hd (k H locs ls hP hS hl)
theorem g_imul {x y : Int32} (C : gC p c cc meth m s args nL ret own D cA ad sh) (hd : decode cc pc = .ok (.imul, 1))  (k : gW p l e R s m args below meth c D cA ad sh nL kc ks Q  (pc + 1) lo (.int (x * y) :: st) w) : gW p l e R s m args below meth c D cA ad sh nL kc ks Q  pc lo (.int y :: .int x :: st) w :=
  fun H locs ls hP hS hl => lv_imul C.1 C.2.1 hd (k H locs ls hP hS hl)
theorem g_iand {x y : Int32} (C : gC p c cc meth m s args nL ret own D cA ad sh) (hd : decode cc pc = .ok (.iand, 1))  (k : gW p l e R s m args below meth c D cA ad sh nL kc ks Q  (pc + 1) lo (.int (x &&& y) :: st) w) : gW p l e R s m args below meth c D cA ad sh nL kc ks Q  pc lo (.int y :: .int x :: st) w :=
  fun H locs ls hP hS hl => lv_iand C.1 C.2.1 hd (k H locs ls hP hS hl)
theorem g_ior {x y : Int32} (C : gC p c cc meth m s args nL ret own D cA ad sh) (hd : decode cc pc = .ok (.ior, 1))  (k : gW p l e R s m args below meth c D cA ad sh nL kc ks Q  (pc + 1) lo (.int (x ||| y) :: st) w) : gW p l e R s m args below meth c D cA ad sh nL kc ks Q  pc lo (.int y :: .int x :: st) w :=
  fun H locs ls hP hS hl => lv_ior C.1 C.2.1 hd (k H locs ls hP hS hl)
theorem g_ixor {x y : Int32} (C : gC p c cc meth m s args nL ret own D cA ad sh) (hd : decode cc pc = .ok (.ixor, 1))  (k : gW p l e R s m args below meth c D cA ad sh nL kc ks Q  (pc + 1) lo (.int (x ^^^ y) :: st) w) : gW p l e R s m args below meth c D cA ad sh nL kc ks Q  pc lo (.int y :: .int x :: st) w :=
  fun H locs ls hP hS hl => lv_ixor C.1 C.2.1 hd (k H locs ls hP hS hl)
theorem g_ishl {x y : Int32} (C : gC p c cc meth m s args nL ret own D cA ad sh) (hd : decode cc pc = .ok (.ishl, 1))  (k : gW p l e R s m args below meth c D cA ad sh nL kc ks Q  (pc + 1) lo (.int (x <<< (y &&& 31)) :: st) w) : gW p l e R s m args below meth c D cA ad sh nL kc ks Q  pc lo (.int y :: .int x :: st) w :=
  fun H locs ls hP hS hl => lv_ishl C.1 C.2.1 hd (k H locs ls hP hS hl)
theorem g_ishr {x y : Int32} (C : gC p c cc meth m s args nL ret own D cA ad sh) (hd : decode cc pc = .ok (.ishr, 1))  (k : gW p l e R s m args below meth c D cA ad sh nL kc ks Q  (pc + 1) lo (.int (x >>> (y &&& 31)) :: st) w) : gW p l e R s m args below meth c D cA ad sh nL kc ks Q  pc lo (.int y :: .int x :: st) w :=
  fun H locs ls hP hS hl => lv_ishr C.1 C.2.1 hd (k H locs ls hP hS hl)
theorem g_iushr {x y : Int32} (C : gC p c cc meth m s args nL ret own D cA ad sh) (hd : decode cc pc = .ok (.iushr, 1))  (k : gW p l e R s m args below meth c D cA ad sh nL kc ks Q  (pc + 1) lo (.int ((x.toUInt32 >>> (y.toUInt32 &&& Int32.toUInt32 31)).toInt32) :: st) w) : gW p l e R s m args below meth c D cA ad sh nL kc ks Q  pc lo (.int y :: .int x :: st) w :=
  fun H locs ls hP hS hl => lv_iushr C.1 C.2.1 hd rfl (k H locs ls hP hS hl)
theorem g_idiv {x y : Int32} (C : gC p c cc meth m s args nL ret own D cA ad sh) (hd : decode cc pc = .ok (.idiv, 1)) (hne : ¬ y = 0) (k : gW p l e R s m args below meth c D cA ad sh nL kc ks Q  (pc + 1) lo (.int (x / y) :: st) w) : gW p l e R s m args below meth c D cA ad sh nL kc ks Q  pc lo (.int y :: .int x :: st) w :=
  fun H locs ls hP hS hl => lv_idiv C.1 C.2.1 hd hne (k H locs ls hP hS hl)
theorem g_irem {x y : Int32} (C : gC p c cc meth m s args nL ret own D cA ad sh) (hd : decode cc pc = .ok (.irem, 1)) (hne : ¬ y = 0) (k : gW p l e R s m args below meth c D cA ad sh nL kc ks Q  (pc + 1) lo (.int (x - x / y * y) :: st) w) : gW p l e R s m args below meth c D cA ad sh nL kc ks Q  pc lo (.int y :: .int x :: st) w :=
  fun H locs ls hP hS hl => lv_irem C.1 C.2.1 hd hne (k H locs ls hP hS hl)
theorem g_ineg {x : Int32} (C : gC p c cc meth m s args nL ret own D cA ad sh) (hd : decode cc pc = .ok (.ineg, 1))  (k : gW p l e R s m args below meth c D cA ad sh nL kc ks Q  (pc + 1) lo (.int (-x) :: st) w) : gW p l e R s m args below meth c D cA ad sh nL kc ks Q  pc lo (.int x :: st) w :=
  fun H locs ls hP hS hl => lv_ineg C.1 C.2.1 hd (k H locs ls hP hS hl)
theorem g_ladd {x y : Int64} (C : gC p c cc meth m s args nL ret own D cA ad sh) (hd : decode cc pc = .ok (.ladd, 1))  (k : gW p l e R s m args below meth c D cA ad sh nL kc ks Q  (pc + 1) lo (.long (x + y) :: st) w) : gW p l e R s m args below meth c D cA ad sh nL kc ks Q  pc lo (.long y :: .long x :: st) w :=
  fun H locs ls hP hS hl => lv_ladd C.1 C.2.1 hd (k H locs ls hP hS hl)
theorem g_lsub {x y : Int64} (C : gC p c cc meth m s args nL ret own D cA ad sh) (hd : decode cc pc = .ok (.lsub, 1))  (k : gW p l e R s m args below meth c D cA ad sh nL kc ks Q  (pc + 1) lo (.long (x - y) :: st) w) : gW p l e R s m args below meth c D cA ad sh nL kc ks Q  pc lo (.long y :: .long x :: st) w :=
  fun H locs ls hP hS hl => lv_lsub C.1 C.2.1 hd (k H locs ls hP hS hl)
theorem g_lmul {x y : Int64} (C : gC p c cc meth m s args nL ret own D cA ad sh) (hd : decode cc pc = .ok (.lmul, 1))  (k : gW p l e R s m args below meth c D cA ad sh nL kc ks Q  (pc + 1) lo (.long (x * y) :: st) w) : gW p l e R s m args below meth c D cA ad sh nL kc ks Q  pc lo (.long y :: .long x :: st) w :=
  fun H locs ls hP hS hl => lv_lmul C.1 C.2.1 hd (k H locs ls hP hS hl)
theorem g_land {x y : Int64} (C : gC p c cc meth m s args nL ret own D cA ad sh) (hd : decode cc pc = .ok (.land, 1))  (k : gW p l e R s m args below meth c D cA ad sh nL kc ks Q  (pc + 1) lo (.long (x &&& y) :: st) w) : gW p l e R s m args below meth c D cA ad sh nL kc ks Q  pc lo (.long y :: .long x :: st) w :=
  fun H locs ls hP hS hl => lv_land C.1 C.2.1 hd (k H locs ls hP hS hl)
theorem g_lor {x y : Int64} (C : gC p c cc meth m s args nL ret own D cA ad sh) (hd : decode cc pc = .ok (.lor, 1))  (k : gW p l e R s m args below meth c D cA ad sh nL kc ks Q  (pc + 1) lo (.long (x ||| y) :: st) w) : gW p l e R s m args below meth c D cA ad sh nL kc ks Q  pc lo (.long y :: .long x :: st) w :=
  fun H locs ls hP hS hl => lv_lor C.1 C.2.1 hd (k H locs ls hP hS hl)
theorem g_lxor {x y : Int64} (C : gC p c cc meth m s args nL ret own D cA ad sh) (hd : decode cc pc = .ok (.lxor, 1))  (k : gW p l e R s m args below meth c D cA ad sh nL kc ks Q  (pc + 1) lo (.long (x ^^^ y) :: st) w) : gW p l e R s m args below meth c D cA ad sh nL kc ks Q  pc lo (.long y :: .long x :: st) w :=
  fun H locs ls hP hS hl => lv_lxor C.1 C.2.1 hd (k H locs ls hP hS hl)
theorem g_ldiv {x y : Int64} (C : gC p c cc meth m s args nL ret own D cA ad sh) (hd : decode cc pc = .ok (.ldiv, 1)) (hne : ¬ y = 0) (k : gW p l e R s m args below meth c D cA ad sh nL kc ks Q  (pc + 1) lo (.long (x / y) :: st) w) : gW p l e R s m args below meth c D cA ad sh nL kc ks Q  pc lo (.long y :: .long x :: st) w :=
  fun H locs ls hP hS hl => lv_ldiv C.1 C.2.1 hd hne (k H locs ls hP hS hl)
theorem g_lrem {x y : Int64} (C : gC p c cc meth m s args nL ret own D cA ad sh) (hd : decode cc pc = .ok (.lrem, 1)) (hne : ¬ y = 0) (k : gW p l e R s m args below meth c D cA ad sh nL kc ks Q  (pc + 1) lo (.long (x - x / y * y) :: st) w) : gW p l e R s m args below meth c D cA ad sh nL kc ks Q  pc lo (.long y :: .long x :: st) w :=
  fun H locs ls hP hS hl => lv_lrem C.1 C.2.1 hd hne (k H locs ls hP hS hl)
theorem g_lshl {x : Int64} {y : Int32} (C : gC p c cc meth m s args nL ret own D cA ad sh) (hd : decode cc pc = .ok (.lshl, 1))  (k : gW p l e R s m args below meth c D cA ad sh nL kc ks Q  (pc + 1) lo (.long (x <<< (y.toInt64 &&& 63)) :: st) w) : gW p l e R s m args below meth c D cA ad sh nL kc ks Q  pc lo (.int y :: .long x :: st) w :=
  fun H locs ls hP hS hl => lv_lshl C.1 C.2.1 hd rfl (k H locs ls hP hS hl)
theorem g_lcmp {x y : Int64} (C : gC p c cc meth m s args nL ret own D cA ad sh) (hd : decode cc pc = .ok (.lcmp, 1))  (k : gW p l e R s m args below meth c D cA ad sh nL kc ks Q  (pc + 1) lo (.int (lg_cmp x y) :: st) w) : gW p l e R s m args below meth c D cA ad sh nL kc ks Q  pc lo (.long y :: .long x :: st) w :=
  fun H locs ls hP hS hl => W.lcmp C.1 C.2.1 hd (k H locs ls hP hS hl)
theorem g_i2l {x : Int32} (C : gC p c cc meth m s args nL ret own D cA ad sh) (hd : decode cc pc = .ok (.i2l, 1))  (k : gW p l e R s m args below meth c D cA ad sh nL kc ks Q  (pc + 1) lo (.long x.toInt64 :: st) w) : gW p l e R s m args below meth c D cA ad sh nL kc ks Q  pc lo (.int x :: st) w :=
  fun H locs ls hP hS hl => lv_i2l C.1 C.2.1 hd rfl (k H locs ls hP hS hl)
theorem g_l2i {x : Int64} (C : gC p c cc meth m s args nL ret own D cA ad sh) (hd : decode cc pc = .ok (.l2i, 1))  (k : gW p l e R s m args below meth c D cA ad sh nL kc ks Q  (pc + 1) lo (.int x.toInt32 :: st) w) : gW p l e R s m args below meth c D cA ad sh nL kc ks Q  pc lo (.long x :: st) w :=
  fun H locs ls hP hS hl => lv_l2i C.1 C.2.1 hd rfl (k H locs ls hP hS hl)
theorem g_i2b {x : Int32} (C : gC p c cc meth m s args nL ret own D cA ad sh) (hd : decode cc pc = .ok (.i2b, 1))  (k : gW p l e R s m args below meth c D cA ad sh nL kc ks Q  (pc + 1) lo (.int x.toInt8.toInt32 :: st) w) : gW p l e R s m args below meth c D cA ad sh nL kc ks Q  pc lo (.int x :: st) w :=
  fun H locs ls hP hS hl => lv_i2b C.1 C.2.1 hd rfl (k H locs ls hP hS hl)
theorem g_i2s {x : Int32} (C : gC p c cc meth m s args nL ret own D cA ad sh) (hd : decode cc pc = .ok (.i2s, 1))  (k : gW p l e R s m args below meth c D cA ad sh nL kc ks Q  (pc + 1) lo (.int x.toInt16.toInt32 :: st) w) : gW p l e R s m args below meth c D cA ad sh nL kc ks Q  pc lo (.int x :: st) w :=
  fun H locs ls hP hS hl => lv_i2s C.1 C.2.1 hd rfl (k H locs ls hP hS hl)
theorem g_dup {v : Value} (C : gC p c cc meth m s args nL ret own D cA ad sh) (hd : decode cc pc = .ok (.dup, 1)) (hv : v.category = 1) (k : gW p l e R s m args below meth c D cA ad sh nL kc ks Q  (pc + 1) lo (v :: v :: st) w) : gW p l e R s m args below meth c D cA ad sh nL kc ks Q  pc lo (v :: st) w :=
  fun H locs ls hP hS hl => lv_dup C.1 C.2.1 hd (by rw [gconc_cat]; exact hv) (k H locs ls hP hS hl)
theorem g_pop {v : Value} (C : gC p c cc meth m s args nL ret own D cA ad sh) (hd : decode cc pc = .ok (.pop, 1)) (hv : v.category = 1) (k : gW p l e R s m args below meth c D cA ad sh nL kc ks Q  (pc + 1) lo st w) : gW p l e R s m args below meth c D cA ad sh nL kc ks Q  pc lo (v :: st) w :=
  fun H locs ls hP hS hl => lv_pop C.1 C.2.1 hd (by rw [gconc_cat]; exact hv) (k H locs ls hP hS hl)
theorem g_dup2 {u v : Value} (C : gC p c cc meth m s args nL ret own D cA ad sh) (hd : decode cc pc = .ok (.dup2, 1)) (hu : u.category = 1) (hv : v.category = 1) (k : gW p l e R s m args below meth c D cA ad sh nL kc ks Q  (pc + 1) lo (u :: v :: u :: v :: st) w) : gW p l e R s m args below meth c D cA ad sh nL kc ks Q  pc lo (u :: v :: st) w :=
  fun H locs ls hP hS hl => lv_dup2_11 C.1 C.2.1 hd (by rw [gconc_cat]; exact hu) (by rw [gconc_cat]; exact hv) (k H locs ls hP hS hl)
theorem g_if_eq (C : gC p c cc meth m s args nL ret own D cA ad sh) {x : Int32} {off : Int} {tgt : Nat} (hd : decode cc pc = .ok (.ifCond .eq off, 3)) (ht : (pc : Int) + off = (tgt : Int)) (kt : x = 0 → gW p l e R s m args below meth c D cA ad sh nL kc ks Q  tgt lo st w) (kf : ¬ x = 0 → gW p l e R s m args below meth c D cA ad sh nL kc ks Q  (pc + 3) lo st w) : gW p l e R s m args below meth c D cA ad sh nL kc ks Q  pc lo (.int x :: st) w :=
  fun H locs ls hP hS hl => lv_if_eq C.1 C.2.1 hd ht (fun h => kt h H locs ls hP hS hl) (fun h => kf h H locs ls hP hS hl)
theorem g_icmp_eq (C : gC p c cc meth m s args nL ret own D cA ad sh) {x y : Int32} {off : Int} {tgt : Nat} (hd : decode cc pc = .ok (.if_icmp .eq off, 3)) (ht : (pc : Int) + off = (tgt : Int)) (kt : x = y → gW p l e R s m args below meth c D cA ad sh nL kc ks Q  tgt lo st w) (kf : ¬ x = y → gW p l e R s m args below meth c D cA ad sh nL kc ks Q  (pc + 3) lo st w) : gW p l e R s m args below meth c D cA ad sh nL kc ks Q  pc lo (.int y :: .int x :: st) w :=
  fun H locs ls hP hS hl => lv_icmp_eq C.1 C.2.1 hd ht (fun h => kt h H locs ls hP hS hl) (fun h => kf h H locs ls hP hS hl)
theorem g_if_ne (C : gC p c cc meth m s args nL ret own D cA ad sh) {x : Int32} {off : Int} {tgt : Nat} (hd : decode cc pc = .ok (.ifCond .ne off, 3)) (ht : (pc : Int) + off = (tgt : Int)) (kt : ¬ x = 0 → gW p l e R s m args below meth c D cA ad sh nL kc ks Q  tgt lo st w) (kf : x = 0 → gW p l e R s m args below meth c D cA ad sh nL kc ks Q  (pc + 3) lo st w) : gW p l e R s m args below meth c D cA ad sh nL kc ks Q  pc lo (.int x :: st) w :=
  fun H locs ls hP hS hl => lv_if_ne C.1 C.2.1 hd ht (fun h => kt h H locs ls hP hS hl) (fun h => kf h H locs ls hP hS hl)
theorem g_icmp_ne (C : gC p c cc meth m s args nL ret own D cA ad sh) {x y : Int32} {off : Int} {tgt : Nat} (hd : decode cc pc = .ok (.if_icmp .ne off, 3)) (ht : (pc : Int) + off = (tgt : Int)) (kt : ¬ x = y → gW p l e R s m args below meth c D cA ad sh nL kc ks Q  tgt lo st w) (kf : x = y → gW p l e R s m args below meth c D cA ad sh nL kc ks Q  (pc + 3) lo st w) : gW p l e R s m args below meth c D cA ad sh nL kc ks Q  pc lo (.int y :: .int x :: st) w :=
  fun H locs ls hP hS hl => lv_icmp_ne C.1 C.2.1 hd ht (fun h => kt h H locs ls hP hS hl) (fun h => kf h H locs ls hP hS hl)
theorem g_if_lt (C : gC p c cc meth m s args nL ret own D cA ad sh) {x : Int32} {off : Int} {tgt : Nat} (hd : decode cc pc = .ok (.ifCond .lt off, 3)) (ht : (pc : Int) + off = (tgt : Int)) (kt : x < 0 → gW p l e R s m args below meth c D cA ad sh nL kc ks Q  tgt lo st w) (kf : ¬ x < 0 → gW p l e R s m args below meth c D cA ad sh nL kc ks Q  (pc + 3) lo st w) : gW p l e R s m args below meth c D cA ad sh nL kc ks Q  pc lo (.int x :: st) w :=
  fun H locs ls hP hS hl => lv_if_lt C.1 C.2.1 hd ht (fun h => kt h H locs ls hP hS hl) (fun h => kf h H locs ls hP hS hl)
theorem g_icmp_lt (C : gC p c cc meth m s args nL ret own D cA ad sh) {x y : Int32} {off : Int} {tgt : Nat} (hd : decode cc pc = .ok (.if_icmp .lt off, 3)) (ht : (pc : Int) + off = (tgt : Int)) (kt : x < y → gW p l e R s m args below meth c D cA ad sh nL kc ks Q  tgt lo st w) (kf : ¬ x < y → gW p l e R s m args below meth c D cA ad sh nL kc ks Q  (pc + 3) lo st w) : gW p l e R s m args below meth c D cA ad sh nL kc ks Q  pc lo (.int y :: .int x :: st) w :=
  fun H locs ls hP hS hl => lv_icmp_lt C.1 C.2.1 hd ht (fun h => kt h H locs ls hP hS hl) (fun h => kf h H locs ls hP hS hl)
theorem g_if_ge (C : gC p c cc meth m s args nL ret own D cA ad sh) {x : Int32} {off : Int} {tgt : Nat} (hd : decode cc pc = .ok (.ifCond .ge off, 3)) (ht : (pc : Int) + off = (tgt : Int)) (kt : 0 ≤ x → gW p l e R s m args below meth c D cA ad sh nL kc ks Q  tgt lo st w) (kf : ¬ 0 ≤ x → gW p l e R s m args below meth c D cA ad sh nL kc ks Q  (pc + 3) lo st w) : gW p l e R s m args below meth c D cA ad sh nL kc ks Q  pc lo (.int x :: st) w :=
  fun H locs ls hP hS hl => lv_if_ge C.1 C.2.1 hd ht (fun h => kt h H locs ls hP hS hl) (fun h => kf h H locs ls hP hS hl)
theorem g_icmp_ge (C : gC p c cc meth m s args nL ret own D cA ad sh) {x y : Int32} {off : Int} {tgt : Nat} (hd : decode cc pc = .ok (.if_icmp .ge off, 3)) (ht : (pc : Int) + off = (tgt : Int)) (kt : y ≤ x → gW p l e R s m args below meth c D cA ad sh nL kc ks Q  tgt lo st w) (kf : ¬ y ≤ x → gW p l e R s m args below meth c D cA ad sh nL kc ks Q  (pc + 3) lo st w) : gW p l e R s m args below meth c D cA ad sh nL kc ks Q  pc lo (.int y :: .int x :: st) w :=
  fun H locs ls hP hS hl => lv_icmp_ge C.1 C.2.1 hd ht (fun h => kt h H locs ls hP hS hl) (fun h => kf h H locs ls hP hS hl)
theorem g_if_gt (C : gC p c cc meth m s args nL ret own D cA ad sh) {x : Int32} {off : Int} {tgt : Nat} (hd : decode cc pc = .ok (.ifCond .gt off, 3)) (ht : (pc : Int) + off = (tgt : Int)) (kt : 0 < x → gW p l e R s m args below meth c D cA ad sh nL kc ks Q  tgt lo st w) (kf : ¬ 0 < x → gW p l e R s m args below meth c D cA ad sh nL kc ks Q  (pc + 3) lo st w) : gW p l e R s m args below meth c D cA ad sh nL kc ks Q  pc lo (.int x :: st) w :=
  fun H locs ls hP hS hl => lv_if_gt C.1 C.2.1 hd ht (fun h => kt h H locs ls hP hS hl) (fun h => kf h H locs ls hP hS hl)
theorem g_icmp_gt (C : gC p c cc meth m s args nL ret own D cA ad sh) {x y : Int32} {off : Int} {tgt : Nat} (hd : decode cc pc = .ok (.if_icmp .gt off, 3)) (ht : (pc : Int) + off = (tgt : Int)) (kt : y < x → gW p l e R s m args below meth c D cA ad sh nL kc ks Q  tgt lo st w) (kf : ¬ y < x → gW p l e R s m args below meth c D cA ad sh nL kc ks Q  (pc + 3) lo st w) : gW p l e R s m args below meth c D cA ad sh nL kc ks Q  pc lo (.int y :: .int x :: st) w :=
  fun H locs ls hP hS hl => lv_icmp_gt C.1 C.2.1 hd ht (fun h => kt h H locs ls hP hS hl) (fun h => kf h H locs ls hP hS hl)
theorem g_if_le (C : gC p c cc meth m s args nL ret own D cA ad sh) {x : Int32} {off : Int} {tgt : Nat} (hd : decode cc pc = .ok (.ifCond .le off, 3)) (ht : (pc : Int) + off = (tgt : Int)) (kt : x ≤ 0 → gW p l e R s m args below meth c D cA ad sh nL kc ks Q  tgt lo st w) (kf : ¬ x ≤ 0 → gW p l e R s m args below meth c D cA ad sh nL kc ks Q  (pc + 3) lo st w) : gW p l e R s m args below meth c D cA ad sh nL kc ks Q  pc lo (.int x :: st) w :=
  fun H locs ls hP hS hl => lv_if_le C.1 C.2.1 hd ht (fun h => kt h H locs ls hP hS hl) (fun h => kf h H locs ls hP hS hl)
theorem g_icmp_le (C : gC p c cc meth m s args nL ret own D cA ad sh) {x y : Int32} {off : Int} {tgt : Nat} (hd : decode cc pc = .ok (.if_icmp .le off, 3)) (ht : (pc : Int) + off = (tgt : Int)) (kt : x ≤ y → gW p l e R s m args below meth c D cA ad sh nL kc ks Q  tgt lo st w) (kf : ¬ x ≤ y → gW p l e R s m args below meth c D cA ad sh nL kc ks Q  (pc + 3) lo st w) : gW p l e R s m args below meth c D cA ad sh nL kc ks Q  pc lo (.int y :: .int x :: st) w :=
  fun H locs ls hP hS hl => lv_icmp_le C.1 C.2.1 hd ht (fun h => kt h H locs ls hP hS hl) (fun h => kf h H locs ls hP hS hl)
theorem g_goto {off : Int} {tgt : Nat} (C : gC p c cc meth m s args nL ret own D cA ad sh) (hd : decode cc pc = .ok (.goto off, 3)) (ht : (pc : Int) + off = (tgt : Int)) (k : gW p l e R s m args below meth c D cA ad sh nL kc ks Q  tgt lo st w) : gW p l e R s m args below meth c D cA ad sh nL kc ks Q  pc lo st w :=
  fun H locs ls hP hS hl => lv_goto C.1 C.2.1 hd ht (k H locs ls hP hS hl)
theorem g_ifnull {off : Int} {x : Nat} (C : gC p c cc meth m s args nL ret own D cA ad sh) (hd : decode cc pc = .ok (.ifnull off, 3))  (k : gW p l e R s m args below meth c D cA ad sh nL kc ks Q  (pc + 3) lo st w) : gW p l e R s m args below meth c D cA ad sh nL kc ks Q  pc lo (.ref x :: st) w :=
  fun H locs ls hP hS hl => lv_ifnull C.1 C.2.1 hd (k H locs ls hP hS hl)
theorem g_tableIn {dflt lo0 hi0 : Int} {offs : Array Int} {len : Nat} {x : Int32} {off : Int} {tgt : Nat} (C : gC p c cc meth m s args nL ret own D cA ad sh) (hd : decode cc pc = .ok (.tableswitch dflt lo0 hi0 offs, len)) (h1 : ¬ x.toInt < lo0) (h2 : ¬ hi0 < x.toInt) (ho : offs[(x.toInt - lo0).toNat]? = some off) (ht : (pc : Int) + off = (tgt : Int)) (k : gW p l e R s m args below meth c D cA ad sh nL kc ks Q  tgt lo st w) : gW p l e R s m args below meth c D cA ad sh nL kc ks Q  pc lo (.int x :: st) w :=
  fun H locs ls hP hS hl => lv_tableIn C.1 C.2.1 hd h1 h2 ho ht (k H locs ls hP hS hl)
theorem g_tableOut {dflt lo0 hi0 : Int} {offs : Array Int} {len : Nat} {x : Int32} {tgt : Nat} (C : gC p c cc meth m s args nL ret own D cA ad sh) (hd : decode cc pc = .ok (.tableswitch dflt lo0 hi0 offs, len)) (h : x.toInt < lo0 ∨ hi0 < x.toInt) (ht : (pc : Int) + dflt = (tgt : Int)) (k : gW p l e R s m args below meth c D cA ad sh nL kc ks Q  tgt lo st w) : gW p l e R s m args below meth c D cA ad sh nL kc ks Q  pc lo (.int x :: st) w :=
  fun H locs ls hP hS hl => lv_tableOut C.1 C.2.1 hd h ht (k H locs ls hP hS hl)
theorem g_lookup {dflt : Int} {ps : Array (Int × Int)} {len : Nat} {x : Int32} {off : Int} {tgt : Nat} (C : gC p c cc meth m s args nL ret own D cA ad sh) (hd : decode cc pc = .ok (.lookupswitch dflt ps, len)) (hp : (ps.toList.zip (ps.toList.drop 1)).all (fun (a, next) => a.1 < next.1) = true) (ho : Op.lookupswitch.offset ps.toList dflt x.toInt = off) (ht : (pc : Int) + off = (tgt : Int)) (k : gW p l e R s m args below meth c D cA ad sh nL kc ks Q  tgt lo st w) : gW p l e R s m args below meth c D cA ad sh nL kc ks Q  pc lo (.int x :: st) w :=
  fun H locs ls hP hS hl => lv_lookup C.1 C.2.1 hd hp ho ht (k H locs ls hP hS hl)
theorem g_sub {lo2 : List (Nat × Value)} (kz : List Nat) (h : lv_pick lo kz = lo2) (k : gW p l e R s m args below meth c D cA ad sh nL kc ks Q  pc lo2 st w) : gW p l e R s m args below meth c D cA ad sh nL kc ks Q  pc lo st w :=
  fun H locs ls hP hS hl => k H locs ls hP hS (lv_sub hl kz (by rw [← h]; unfold lv_pick glo; rw [List.map_filterMap]; exact congrArg (fun f => List.filterMap f kz) (funext fun i => by rw [List.getElem?_map])))
theorem g_pc {pc2 : Nat} (h : pc = pc2) (k : gW p l e R s m args below meth c D cA ad sh nL kc ks Q  pc2 lo st w) : gW p l e R s m args below meth c D cA ad sh nL kc ks Q  pc lo st w := h ▸ k
theorem g_ldc (C : gC p c cc meth m s args nL ret own D cA ad sh) {index : Nat} {v : Int32} (hc : Cond.constant own index v ∈ TBL) (hd : decode cc pc = .ok (.ldc index, 2)) (k : gW p l e R s m args below meth c D cA ad sh nL kc ks Q  (pc + 2) lo (.int v :: st) w) : gW p l e R s m args below meth c D cA ad sh nL kc ks Q  pc lo st w :=
  fun H locs ls hP hS hl => lv_ldc C.1 C.2.1 C.2.2.2.2.2.1 (C.2.2.2.2.2.2.1 _ hc) hd (k H locs ls hP hS hl)
theorem g_ldcw (C : gC p c cc meth m s args nL ret own D cA ad sh) {index : Nat} {v : Int32} (hc : Cond.constant own index v ∈ TBL) (hd : decode cc pc = .ok (.ldc_w index, 3)) (k : gW p l e R s m args below meth c D cA ad sh nL kc ks Q  (pc + 3) lo (.int v :: st) w) : gW p l e R s m args below meth c D cA ad sh nL kc ks Q  pc lo st w :=
  fun H locs ls hP hS hl => lv_ldcw C.1 C.2.1 C.2.2.2.2.2.1 (C.2.2.2.2.2.2.1 _ hc) hd (k H locs ls hP hS hl)
theorem g_ldc2 (C : gC p c cc meth m s args nL ret own D cA ad sh) {index : Nat} {v : Int64} (hc : Cond.constantLong own index v ∈ TBL) (hd : decode cc pc = .ok (.ldc2_w index, 3)) (k : gW p l e R s m args below meth c D cA ad sh nL kc ks Q  (pc + 3) lo (.long v :: st) w) : gW p l e R s m args below meth c D cA ad sh nL kc ks Q  pc lo st w :=
  fun H locs ls hP hS hl => lv_ldc2 C.1 C.2.1 C.2.2.2.2.2.1 (C.2.2.2.2.2.2.1 _ hc) hd (k H locs ls hP hS hl)
theorem g_ldcW (C : gC p c cc meth m s args nL ret RX8 D cA ad sh) (hd : decode cc pc = .ok (.ldc 109, 2)) (k : gW p l e R s m args below meth c D cA ad sh nL kc ks Q  (pc + 2) lo (.ref 5000 :: st) w) : gW p l e R s m args below meth c D cA ad sh nL kc ks Q  pc lo st w :=
  fun H locs ls hP hS hl => va_ldcS C.1 C.2.1 C.2.2.2.2.2.1 C.2.2.2.2.2.2.2.2.1.2.2.2.1 hd (k H locs ls hP hS hl)
theorem g_ldcK (C : gC p c cc meth m s args nL ret RX11 D cA ad sh) (hd : decode cc pc = .ok (.ldc 181, 2)) (k : gW p l e R s m args below meth c D cA ad sh nL kc ks Q  (pc + 2) lo (.ref 5001 :: st) w) : gW p l e R s m args below meth c D cA ad sh nL kc ks Q  pc lo st w :=
  fun H locs ls hP hS hl => va_ldcS C.1 C.2.1 C.2.2.2.2.2.1 C.2.2.2.2.2.2.2.2.1.2.2.2.2 hd (k H locs ls hP hS hl)
theorem g_iald (C : gC p c cc meth m s args nL ret own D cA ad sh) {i n kx : Nat} {x : Int32} (hs : sh[i]? = some (0, [n])) (hin : vp_in x n) (hx : x.toNatClampNeg = kx) (hd : decode cc pc = .ok (.iaload, 1)) (k : gW p l e R s m args below meth c D cA ad sh nL kc ks Q  (pc + 1) lo (.int (w.1 i kx) :: st) w) : gW p l e R s m args below meth c D cA ad sh nL kc ks Q  pc lo (.int x :: .ref i :: st) w :=
  fun H locs ls hP hS hl => va_iald C.1 C.2.1 C.2.2.2.2.2.2.2.1.1 hP i 0 (by rw [gM_at hs, gcell_arr (by decide)]) rfl hin hd (by rw [hx]; exact (k H locs ls hP hS hl))
theorem g_bald (C : gC p c cc meth m s args nL ret own D cA ad sh) {i n kx : Nat} {x : Int32} (hs : sh[i]? = some (1, [n])) (hin : vp_in x n) (hx : x.toNatClampNeg = kx) (hd : decode cc pc = .ok (.baload, 1)) (k : gW p l e R s m args below meth c D cA ad sh nL kc ks Q  (pc + 1) lo (.int (w.1 i kx) :: st) w) : gW p l e R s m args below meth c D cA ad sh nL kc ks Q  pc lo (.int x :: .ref i :: st) w :=
  fun H locs ls hP hS hl => va_bald C.1 C.2.1 C.2.2.2.2.2.2.2.1.1 hP i 1 (by rw [gM_at hs, gcell_arr (by decide)]) rfl hin hd (by rw [hx]; exact (k H locs ls hP hS hl))
theorem g_zald (C : gC p c cc meth m s args nL ret own D cA ad sh) {i n kx : Nat} {x : Int32} (hs : sh[i]? = some (2, [n])) (hin : vp_in x n) (hx : x.toNatClampNeg = kx) (hd : decode cc pc = .ok (.baload, 1)) (k : gW p l e R s m args below meth c D cA ad sh nL kc ks Q  (pc + 1) lo (.int (w.1 i kx) :: st) w) : gW p l e R s m args below meth c D cA ad sh nL kc ks Q  pc lo (.int x :: .ref i :: st) w :=
  fun H locs ls hP hS hl => va_zald C.1 C.2.1 C.2.2.2.2.2.2.2.1.1 hP i 2 (by rw [gM_at hs, gcell_arr (by decide)]) rfl hin hd (by rw [hx]; exact (k H locs ls hP hS hl))
theorem g_lald (C : gC p c cc meth m s args nL ret own D cA ad sh) {i n kx : Nat} {x : Int32} (hs : sh[i]? = some (3, [n])) (hin : vp_in x n) (hx : x.toNatClampNeg = kx) (hd : decode cc pc = .ok (.laload, 1)) (k : gW p l e R s m args below meth c D cA ad sh nL kc ks Q  (pc + 1) lo (.long (w.2 i kx) :: st) w) : gW p l e R s m args below meth c D cA ad sh nL kc ks Q  pc lo (.int x :: .ref i :: st) w :=
  fun H locs ls hP hS hl => va_lald C.1 C.2.1 C.2.2.2.2.2.2.2.1.1 hP i 3 (by rw [gM_at hs, gcell_arrL]) rfl hin hd (by rw [hx]; exact (k H locs ls hP hS hl))
theorem g_iast (C : gC p c cc meth m s args nL ret own D cA ad sh) {i n kx : Nat} {x y : Int32} (hs : sh[i]? = some (0, [n])) (hin : vp_in y n) (hx : y.toNatClampNeg = kx) (hd : decode cc pc = .ok (.iastore, 1)) (k : gW p l e R s m args below meth c D cA ad sh nL kc ks Q  (pc + 1) lo st (gI w i kx x)) : gW p l e R s m args below meth c D cA ad sh nL kc ks Q  pc lo (.int x :: .int y :: .ref i :: st) w := by
  subst hx
  intro H locs ls hP hS hl
  refine va_iast C.1 C.2.1 C.2.2.2.2.2.2.2.1.1 hP (gD_of C.2.2.2.2.2.2.2.2.2) hS i 0 (by rw [gM_at hs, gcell_arr (by decide)]) rfl hin hd (fun H1 locs1 hP1 hD1 hS1 => k H1 locs1 ls ?_ hS1 hl)
  rw [gM_set hs (w' := gI w i y.toNatClampNeg x) (by rw [gcell_arr (by decide), gI_row]) (gI_other _ _ _ _)] at hP1
  exact hP1
theorem g_bast (C : gC p c cc meth m s args nL ret own D cA ad sh) {i n kx : Nat} {x y : Int32} (hs : sh[i]? = some (1, [n])) (hin : vp_in y n) (hx : y.toNatClampNeg = kx) (hd : decode cc pc = .ok (.bastore, 1)) (k : gW p l e R s m args below meth c D cA ad sh nL kc ks Q  (pc + 1) lo st (gI w i kx (vp_nar .byte x))) : gW p l e R s m args below meth c D cA ad sh nL kc ks Q  pc lo (.int x :: .int y :: .ref i :: st) w := by
  subst hx
  intro H locs ls hP hS hl
  refine va_bast C.1 C.2.1 C.2.2.2.2.2.2.2.1.1 hP (gD_of C.2.2.2.2.2.2.2.2.2) hS i 1 (by rw [gM_at hs, gcell_arr (by decide)]) rfl hin hd (fun H1 locs1 hP1 hD1 hS1 => k H1 locs1 ls ?_ hS1 hl)
  rw [gM_set hs (w' := gI w i y.toNatClampNeg (vp_nar .byte x)) (by rw [gcell_arr (by decide), gI_row]) (gI_other _ _ _ _)] at hP1
  exact hP1
theorem g_zast (C : gC p c cc meth m s args nL ret own D cA ad sh) {i n kx : Nat} {x y : Int32} (hs : sh[i]? = some (2, [n])) (hin : vp_in y n) (hx : y.toNatClampNeg = kx) (hd : decode cc pc = .ok (.bastore, 1)) (k : gW p l e R s m args below meth c D cA ad sh nL kc ks Q  (pc + 1) lo st (gI w i kx (vp_nar .boolean x))) : gW p l e R s m args below meth c D cA ad sh nL kc ks Q  pc lo (.int x :: .int y :: .ref i :: st) w := by
  subst hx
  intro H locs ls hP hS hl
  refine va_zast C.1 C.2.1 C.2.2.2.2.2.2.2.1.1 hP (gD_of C.2.2.2.2.2.2.2.2.2) hS i 2 (by rw [gM_at hs, gcell_arr (by decide)]) rfl hin hd (fun H1 locs1 hP1 hD1 hS1 => k H1 locs1 ls ?_ hS1 hl)
  rw [gM_set hs (w' := gI w i y.toNatClampNeg (vp_nar .boolean x)) (by rw [gcell_arr (by decide), gI_row]) (gI_other _ _ _ _)] at hP1
  exact hP1
theorem g_last (C : gC p c cc meth m s args nL ret own D cA ad sh) {i n kx : Nat} {x : Int64} {y : Int32} (hs : sh[i]? = some (3, [n])) (hin : vp_in y n) (hx : y.toNatClampNeg = kx) (hd : decode cc pc = .ok (.lastore, 1)) (k : gW p l e R s m args below meth c D cA ad sh nL kc ks Q  (pc + 1) lo st (gL w i kx x)) : gW p l e R s m args below meth c D cA ad sh nL kc ks Q  pc lo (.long x :: .int y :: .ref i :: st) w := by
  subst hx
  intro H locs ls hP hS hl
  refine va_last C.1 C.2.1 C.2.2.2.2.2.2.2.1.1 hP (gD_of C.2.2.2.2.2.2.2.2.2) hS i 3 (by rw [gM_at hs, gcell_arrL]) rfl hin hd (fun H1 locs1 hP1 hD1 hS1 => k H1 locs1 ls ?_ hS1 hl)
  rw [gM_set hs (w' := gL w i y.toNatClampNeg x) (by rw [gcell_arrL, gL_row]) (gL_other _ _ _ _)] at hP1
  exact hP1
theorem g_alen (C : gC p c cc meth m s args nL ret own D cA ad sh) {i t n : Nat} (hs : sh[i]? = some (t, [n])) (ht : t < 4) {v : Int32} (hv : Int32.ofNat n = v) (hd : decode cc pc = .ok (.arraylength, 1)) (k : gW p l e R s m args below meth c D cA ad sh nL kc ks Q  (pc + 1) lo (.int v :: st) w) : gW p l e R s m args below meth c D cA ad sh nL kc ks Q  pc lo (.ref i :: st) w := by
  intro H locs ls hP hS hl
  by_cases h3 : t = 3
  · subst h3
    exact va_alen C.1 C.2.1 C.2.2.2.2.2.2.2.1.1 hP i 3 (by rw [gM_at hs, gcell_arrL]) (ty := .long) rfl hv hd (k H locs ls hP hS hl)
  · have h4 : t = 0 ∨ t = 1 ∨ t = 2 := by omega
    rcases h4 with rfl | rfl | rfl
    · exact va_alen C.1 C.2.1 C.2.2.2.2.2.2.2.1.1 hP i 0 (by rw [gM_at hs, gcell_arr (by decide)]) (ty := .int) rfl hv hd (k H locs ls hP hS hl)
    · exact va_alen C.1 C.2.1 C.2.2.2.2.2.2.2.1.1 hP i 1 (by rw [gM_at hs, gcell_arr (by decide)]) (ty := .byte) rfl hv hd (k H locs ls hP hS hl)
    · exact va_alen C.1 C.2.1 C.2.2.2.2.2.2.2.1.1 hP i 2 (by rw [gM_at hs, gcell_arr (by decide)]) (ty := .boolean) rfl hv hd (k H locs ls hP hS hl)
theorem g_aald4 (C : gC p c cc meth m s args nL ret own D cA ad sh) {i : Nat} {ps : List Nat} {x : Int32} {r : Nat} (hs : sh[i]? = some (4, ps)) (hin : vp_in x ps.length) (hr : ps[x.toNatClampNeg]? = some r) (hd : decode cc pc = .ok (.aaload, 1)) (k : gW p l e R s m args below meth c D cA ad sh nL kc ks Q  (pc + 1) lo (.ref r :: st) w) : gW p l e R s m args below meth c D cA ad sh nL kc ks Q  pc lo (.int x :: .ref i :: st) w := by
  intro H locs ls hP hS hl
  refine va_aldq C.1 C.2.1 C.2.2.2.2.2.2.2.1.1 hP i 4 (by rw [gM_at hs, gcell_refs (by decide) (by decide)]) rfl hin hd ?_
  have hv : va_rf ((ps[x.toNatClampNeg]?).map ad) = .ref (ad r) := by rw [hr]; rfl
  rw [hv]
  exact k H locs ls hP hS hl
theorem g_aald5 (C : gC p c cc meth m s args nL ret own D cA ad sh) {i : Nat} {ps : List Nat} {x : Int32} {r : Nat} (hs : sh[i]? = some (5, ps)) (hin : vp_in x ps.length) (hr : ps[x.toNatClampNeg]? = some r) (hd : decode cc pc = .ok (.aaload, 1)) (k : gW p l e R s m args below meth c D cA ad sh nL kc ks Q  (pc + 1) lo (.ref r :: st) w) : gW p l e R s m args below meth c D cA ad sh nL kc ks Q  pc lo (.int x :: .ref i :: st) w := by
  intro H locs ls hP hS hl
  have hlt : x.toNatClampNeg < ps.length := Nat.not_le.mp fun q => hin (Or.inr q)
  have ha : (gM cA ad sh w)[i]? = some (ad i, .inl (cA 5, ps.length, .inr (.inr (.inr (.inr (fun k => (ps[k]?).map ad)))))) := by rw [gM_at hs, gcell_refs (by decide) (by decide)]
  have hv : va_rf ((ps[x.toNatClampNeg]?).map ad) = .ref (ad r) := by rw [hr]; rfl
  refine W.aald (v := .ref (ad r)) (ty := .array .long) C.1 C.2.1 (hP i _ ha) ((C.2.2.2.2.2.2.2.1.1.2 5 _ rfl).1 ps.length (fun j => va_rf ((ps[j]?).map ad))) rfl (fun q => by cases q) (by show ¬ (x < 0 ∨ (arrV _ _ _).slots.size ≤ _); rw [arrV_size]; exact hin) (by show (arrV _ _ _).slots[_]? = _; rw [arrV_read _ _ hlt]; exact congrArg some hv) rfl rfl hd (k H locs ls hP hS hl)
/-- a field by its place in the pool: class ci of ours, its k-th field -/
def gF (own : String) (idx ci k : Nat) (fin : Bool) (ty : FieldType) : Prop := ∃ (C : String) (T : u_T) (N : Nat) (ty0 : Nat → FieldType), vwCl[ci]? = some (C, T, N) ∧ (∀ w ∈ u_ws C T N, w ∈ TBL) ∧ (∀ j, j < N → parseFieldDescriptor (T j).2.2.1 = some (ty0 j)) ∧ (∀ a, a < N → ∀ b, b < N → a ≠ b → (T a).2.1 ≠ (T b).2.1) ∧ k < N ∧ Cond.fieldLink own idx (T k).1 (T k).2.1 (T k).2.2.1 ∈ TBL ∧ (T k).2.2.2 = fin ∧ parseFieldDescriptor (T k).2.2.1 = some ty
theorem g_getv (C : gC p c cc meth m s args nL ret own D cA ad sh) {i idx ci kk q : Nat} {fl : List Nat} {fin : Bool} {ty : FieldType} (hF : gF own idx ci kk fin ty) (hs : sh[i]? = some (ci + 10, fl)) (hq : fl[kk]? = some q) {v : Value} (hv : gfld ad w i kk q = gconc ad v) (hd : decode cc pc = .ok (.getfield idx, 3)) (k : gW p l e R s m args below meth c D cA ad sh nL kc ks Q  (pc + 3) lo (v :: st) w) : gW p l e R s m args below meth c D cA ad sh nL kc ks Q  pc lo (.ref i :: st) w := by
  intro H locs ls hP hS hl
  obtain ⟨Cn, T, N, ty0, h1, h2, h3, h4, h5, h6, h7, h8⟩ := hF
  refine va_get C.1 C.2.1 C.2.2.2.2.2.2.1 h2 C.2.2.2.2.2.1 C.2.2.2.2.2.2.2.1.1 hP i (by rw [gM_at hs, gcell_obj]) h1 kk h5 (C.2.2.2.2.2.2.1 _ h6) (fun _ h9 => h9) (v := gconc ad v) (by rw [List.getElem?_mapIdx, hq]; exact congrArg some hv) hd (k H locs ls hP hS hl)
theorem g_geti (C : gC p c cc meth m s args nL ret own D cA ad sh) {i idx ci kk : Nat} {fl : List Nat} {fin : Bool} {ty : FieldType} (hF : gF own idx ci kk fin ty) (hs : sh[i]? = some (ci + 10, fl)) (hq : fl[kk]? = some 0) (hd : decode cc pc = .ok (.getfield idx, 3)) (k : gW p l e R s m args below meth c D cA ad sh nL kc ks Q  (pc + 3) lo (.int (w.1 i kk) :: st) w) : gW p l e R s m args below meth c D cA ad sh nL kc ks Q  pc lo (.ref i :: st) w := g_getv C hF hs hq rfl hd k
theorem g_getl (C : gC p c cc meth m s args nL ret own D cA ad sh) {i idx ci kk : Nat} {fl : List Nat} {fin : Bool} {ty : FieldType} (hF : gF own idx ci kk fin ty) (hs : sh[i]? = some (ci + 10, fl)) (hq : fl[kk]? = some 1) (hd : decode cc pc = .ok (.getfield idx, 3)) (k : gW p l e R s m args below meth c D cA ad sh nL kc ks Q  (pc + 3) lo (.long (w.2 i kk) :: st) w) : gW p l e R s m args below meth c D cA ad sh nL kc ks Q  pc lo (.ref i :: st) w := g_getv C hF hs hq rfl hd k
theorem g_getr (C : gC p c cc meth m s args nL ret own D cA ad sh) {i idx ci kk j : Nat} {fl : List Nat} {fin : Bool} {ty : FieldType} (hF : gF own idx ci kk fin ty) (hs : sh[i]? = some (ci + 10, fl)) (hq : fl[kk]? = some (j + 2)) (hd : decode cc pc = .ok (.getfield idx, 3)) (k : gW p l e R s m args below meth c D cA ad sh nL kc ks Q  (pc + 3) lo (.ref j :: st) w) : gW p l e R s m args below meth c D cA ad sh nL kc ks Q  pc lo (.ref i :: st) w := g_getv C hF hs hq (by show gfld ad w i kk (j + 2) = .ref (ad j); unfold gfld; rw [if_neg (by omega), if_neg (by omega)]; rfl) hd k
theorem gfl_set {ad : Nat → Nat} {w w2 : GW} {i kk q : Nat} {v : Value} {fl : List Nat} (hq : fl[kk]? = some q) (hv : gfld ad w2 i kk q = v) (ho : ∀ b, b ≠ kk → w2.1 i b = w.1 i b ∧ w2.2 i b = w.2 i b) : fl.mapIdx (fun k q => gfld ad w2 i k q) = (fl.mapIdx (fun k q => gfld ad w i k q)).set kk v := by
  apply List.ext_getElem?
  intro j
  have hl : kk < (fl.mapIdx (fun k q => gfld ad w i k q)).length := by simpa using (List.getElem?_eq_some_iff.mp hq).1
  by_cases hj : j = kk
  · subst hj
    rw [List.getElem?_set_self hl, List.getElem?_mapIdx, hq]
    exact congrArg some hv
  · rw [List.getElem?_set_ne (Ne.symm hj), List.getElem?_mapIdx, List.getElem?_mapIdx]
    unfold gfld
    rw [(ho j hj).1, (ho j hj).2]
theorem g_puti (C : gC p c cc meth m s args nL ret own D cA ad sh) {i idx ci kk : Nat} {fl : List Nat} {x : Int32} (hF : gF own idx ci kk false .int) (hs : sh[i]? = some (ci + 10, fl)) (hq : fl[kk]? = some 0)  (hd : decode cc pc = .ok (.putfield idx, 3)) (k : gW p l e R s m args below meth c D cA ad sh nL kc ks Q  (pc + 3) lo st (gI w i kk x)) : gW p l e R s m args below meth c D cA ad sh nL kc ks Q  pc lo (.int x :: .ref i :: st) w := by
  intro H locs ls hP hS hl
  obtain ⟨Cn, T, N, ty0, h1, h2, h3, h4, h5, h6, h7, h8⟩ := hF
  refine va_put C.1 C.2.1 C.2.2.2.2.2.2.1 h2 ty0 h3 h4 C.2.2.2.2.2.1 C.2.2.2.2.2.2.2.1.1 hP (gD_of C.2.2.2.2.2.2.2.2.2) hS i (by rw [gM_at hs, gcell_obj]) h1 kk h5 (C.2.2.2.2.2.2.1 _ h6) (fun _ h9 => h9) h7 h8 rfl rfl (by simpa using (List.getElem?_eq_some_iff.mp hq).1) hd (fun H1 locs1 hP1 hD1 hS1 => k H1 locs1 ls ?_ hS1 hl)
  rw [gM_set hs (w' := gI w i kk x) (by rw [gcell_obj, gfl_set (w := w) (w2 := gI w i kk x) (i := i) hq (v := gconc ad (.int x)) (by show gfld ad _ i kk 0 = _; unfold gfld; simp [gI_same, gconc]) (fun b hb => ⟨gI_ne w i kk x (fun h => hb h.2), rfl⟩)]) (gI_other _ _ _ _)] at hP1
  exact hP1
theorem g_putz (C : gC p c cc meth m s args nL ret own D cA ad sh) {i idx ci kk : Nat} {fl : List Nat} {x : Int32} (hF : gF own idx ci kk false .boolean) (hs : sh[i]? = some (ci + 10, fl)) (hq : fl[kk]? = some 0) (hz : x = 0 ∨ x = 1) (hd : decode cc pc = .ok (.putfield idx, 3)) (k : gW p l e R s m args below meth c D cA ad sh nL kc ks Q  (pc + 3) lo st (gI w i kk x)) : gW p l e R s m args below meth c D cA ad sh nL kc ks Q  pc lo (.int x :: .ref i :: st) w := by
  intro H locs ls hP hS hl
  obtain ⟨Cn, T, N, ty0, h1, h2, h3, h4, h5, h6, h7, h8⟩ := hF
  refine va_put C.1 C.2.1 C.2.2.2.2.2.2.1 h2 ty0 h3 h4 C.2.2.2.2.2.1 C.2.2.2.2.2.2.2.1.1 hP (gD_of C.2.2.2.2.2.2.2.2.2) hS i (by rw [gM_at hs, gcell_obj]) h1 kk h5 (C.2.2.2.2.2.2.1 _ h6) (fun _ h9 => h9) h7 h8 (by rcases hz with rfl | rfl <;> rfl) (by rcases hz with rfl | rfl <;> rfl) (by simpa using (List.getElem?_eq_some_iff.mp hq).1) hd (fun H1 locs1 hP1 hD1 hS1 => k H1 locs1 ls ?_ hS1 hl)
  rw [gM_set hs (w' := gI w i kk x) (by rw [gcell_obj, gfl_set (w := w) (w2 := gI w i kk x) (i := i) hq (v := gconc ad (.int x)) (by show gfld ad _ i kk 0 = _; unfold gfld; simp [gI_same, gconc]) (fun b hb => ⟨gI_ne w i kk x (fun h => hb h.2), rfl⟩)]) (gI_other _ _ _ _)] at hP1
  exact hP1
theorem g_putl (C : gC p c cc meth m s args nL ret own D cA ad sh) {i idx ci kk : Nat} {fl : List Nat} {x : Int64} (hF : gF own idx ci kk false .long) (hs : sh[i]? = some (ci + 10, fl)) (hq : fl[kk]? = some 1)  (hd : decode cc pc = .ok (.putfield idx, 3)) (k : gW p l e R s m args below meth c D cA ad sh nL kc ks Q  (pc + 3) lo st (gL w i kk x)) : gW p l e R s m args below meth c D cA ad sh nL kc ks Q  pc lo (.long x :: .ref i :: st) w := by
  intro H locs ls hP hS hl
  obtain ⟨Cn, T, N, ty0, h1, h2, h3, h4, h5, h6, h7, h8⟩ := hF
  refine va_put C.1 C.2.1 C.2.2.2.2.2.2.1 h2 ty0 h3 h4 C.2.2.2.2.2.1 C.2.2.2.2.2.2.2.1.1 hP (gD_of C.2.2.2.2.2.2.2.2.2) hS i (by rw [gM_at hs, gcell_obj]) h1 kk h5 (C.2.2.2.2.2.2.1 _ h6) (fun _ h9 => h9) h7 h8 rfl rfl (by simpa using (List.getElem?_eq_some_iff.mp hq).1) hd (fun H1 locs1 hP1 hD1 hS1 => k H1 locs1 ls ?_ hS1 hl)
  rw [gM_set hs (w' := gL w i kk x) (by rw [gcell_obj, gfl_set (w := w) (w2 := gL w i kk x) (i := i) hq (v := gconc ad (.long x)) (by show gfld ad _ i kk 1 = _; unfold gfld; simp [gL_same, gconc]) (fun b hb => ⟨rfl, gL_ne w i kk x (fun h => hb h.2)⟩)]) (gL_other _ _ _ _)] at hP1
  exact hP1
def gPost (D : va_G) (cA ad : Nat → Nat) (sh : GS) (r : Option Value) (w2 : GW) : Array Value → State → Outcome → State → Prop := fun _ st oc t => oc = .returned r ∧ va_P D vwCl (gM cA ad sh w2) t.heap ∧ va_F (gA ad sh.length) st t
def gPre (D : va_G) (cA ad : Nat → Nat) (sh : GS) (w : GW) (U : State) : Prop := va_P D vwCl (gM cA ad sh w) U.heap ∧ gK D cA U ∧ gStr ad (gA ad sh.length) U U.heap
/-- a method's contract: over the world w it returns r, the world is w2 -/
def gMet (l : Launch) (y : MethodName) (cc : ByteArray) (maxL : Nat) (ret : Option FieldType) (fr lo : Nat) (D : va_G) (cA ad : Nat → Nat) (sh : GS) (avs : List Value) (w : GW) (r : Option Value) (w2 : GW) : Prop :=
  Met l y (Cond.code y cc maxL ret :: TBL) { frames := fr, cells := 0, slots := 0, locals := lo } (va_Pc (avs.map (gconc ad)) (gPre D cA ad sh w)) (gPost D cA ad sh r w2) 0 0 (gA ad sh.length)
theorem g_iret {x : Int32} {r : Option Value} (C : gC p c cc meth m s args nL (some .int) own D cA ad sh) (hr : r = some (.int x)) (hd : decode cc pc = .ok (.ireturn, 1)) : gW p l e R s m args below meth c D cA ad sh nL 0 0 (MQ below (gPost D cA ad sh r w) args s 0 0 (gA ad sh.length)) pc lo [.int x] w := by
  subst hr
  exact fun H locs ls hP hS hl => W.iret C.1 C.2.1 C.2.2.2.1 (fun t ht hW => ⟨rfl, by rw [ht]; exact hP, hS.F ht⟩) hS.2.2 hd C.2.2.2.2.1
theorem g_lret {x : Int64} {r : Option Value} (C : gC p c cc meth m s args nL (some .long) own D cA ad sh) (hr : r = some (.long x)) (hd : decode cc pc = .ok (.lreturn, 1)) : gW p l e R s m args below meth c D cA ad sh nL 0 0 (MQ below (gPost D cA ad sh r w) args s 0 0 (gA ad sh.length)) pc lo [.long x] w := by
  subst hr
  exact fun H locs ls hP hS hl => W.lret C.1 C.2.1 C.2.2.2.1 (fun t ht hW => ⟨rfl, by rw [ht]; exact hP, hS.F ht⟩) hS.2.2 hd C.2.2.2.2.1
theorem g_zret {x : Int32} {r : Option Value} (C : gC p c cc meth m s args nL (some .boolean) own D cA ad sh) (hz : x = 0 ∨ x = 1) (hr : r = some (.int x)) (hd : decode cc pc = .ok (.ireturn, 1)) : gW p l e R s m args below meth c D cA ad sh nL 0 0 (MQ below (gPost D cA ad sh r w) args s 0 0 (gA ad sh.length)) pc lo [.int x] w := by
  subst hr
  exact fun H locs ls hP hS hl => W.zret C.1 C.2.1 C.2.2.2.1 (by rcases hz with rfl | rfl <;> rfl) (fun t ht hW => ⟨rfl, by rw [ht]; exact hP, hS.F ht⟩) hS.2.2 hd C.2.2.2.2.1
theorem g_vret {r : Option Value} (C : gC p c cc meth m s args nL none own D cA ad sh) (hr : r = none) (hd : decode cc pc = .ok (.return_, 1)) : gW p l e R s m args below meth c D cA ad sh nL 0 0 (MQ below (gPost D cA ad sh r w) args s 0 0 (gA ad sh.length)) pc lo [] w := by
  subst hr
  exact fun H locs ls hP hS hl => W.vret C.1 C.2.1 C.2.2.2.1 (fun t ht hW => ⟨rfl, by rw [ht]; exact hP, hS.F ht⟩) hS.2.2 hd C.2.2.2.2.1
/-- a contract out of a walk from the entry -/
theorem g_entry {y : MethodName} {fr lm : Nat} {avs : List Value} {r : Option Value} {w2 : GW} {l : Launch} (hy : plainName y.cls = true) (hin : gInj ad sh.length) (hlen : (lg_sl (avs.map (gconc ad))).length ≤ nL)
    (body : ∀ (p : Program) (e : Env) (s : State) (m : MethodId) (args : Array Value) (below : List Frame) (meth : Method) (c : Code), gC p c cc meth m s args nL ret y.cls D cA ad sh →
      gW p l e { frames := fr, cells := 0, slots := 0, locals := lm } s m args below meth c D cA ad sh nL 0 0 (MQ below (gPost D cA ad sh r w2) args s 0 0 (gA ad sh.length)) 0 (lv_args 0 avs) [] w) : gMet l y cc nL ret fr lm D cA ad sh avs w r w2 := by
  refine Met.ofW (cc := cc) (maxL := nL) (ret := ret) hy rfl ?_
  intro p e s m args below meth c s₁ B hml hv
  obtain ⟨rfl, hP, hK, hStr⟩ := hv
  have hts := atoms_spec (ws := Cond.code y cc nL ret :: TBL) B.pre
  have hown : s.vm.findClass y.cls = some m.cls := findClass_of_methodNamed B.named
  have C : gC p c cc meth m s (avs.map (gconc ad)).toArray nL ret y.cls D cA ad sh := ⟨B.exec, B.bytes, hml, B.returns, B.notSynchronized, hown, fun w hw => hts w (List.mem_cons_of_mem _ hw), hK, hStr, hin⟩
  have hl := lv_entry (avs.map (gconc ad)) hlen
  rw [lg_entry_eq]
  rw [lv_args_map] at hl
  exact body p e s m _ below meth c C s.heap [] _ hP va_S.rf hl
end GR
