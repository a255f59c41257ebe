/-! Constructors: a world that grows, as a list of cells at addresses that are variables. -/
def cK (D : va_G) (cA : Nat → ClassId) (s : State) : Prop := gK D cA s ∧ va_AO RX4 s ∧ va_AOA .long s
def cC (p : Program) (c : Code) (cc : ByteArray) (m : MethodId) (s : State) (args : Array Value) (nL : Nat) (own : String) (D : va_G) (cA adS : Nat → Nat) (A : Nat → Prop) : Prop :=
  p.tables.exec = Jvm.exec ∧ c.code = cc ∧ c.maxLocals = nL ∧ s.vm.findClass own = some m.cls ∧ (∀ w ∈ TBL, w.before args s = true) ∧ cK D cA s ∧ gStr adS A s s.heap ∧ ∀ q : Nat, s.heap.size ≤ q → A q
def cW (p : Program) (l : Launch) (e : Env) (R : Room) (s : State) (m : MethodId) (args : Array Value) (below : List Frame) (meth : Method) (c : Code) (D : va_G) (A : Nat → Prop) (nL cells slots : Nat) (Q : State → Prop) (pc : Nat) (lo : List (Nat × Value)) (st : List Value) (ws : va_W) : Prop :=
  ∀ (H : Heap) (locs : List Loc) (ls : Array Slot), va_P D vwCl ws H → va_D A ws → va_S A s.heap H locs → lv_has ls nL lo → W p l e R s m args below meth c H locs cells slots Q (F0 m pc ls st)
theorem clk {ls : Array Slot} {nL : Nat} {lo : List (Nat × Value)} {i : Nat} {v : Value} (hl : lv_has ls nL lo) (h : lo.lookup i = some v) : ls[i]? = some (.val v) := by
  refine hl.2.2 (i, v) ?_
  clear hl
  induction lo with
  | nil => simp at h
  | cons q lo ih =>
    obtain ⟨j, x⟩ := q
    rw [List.lookup_cons] at h
    by_cases hij : i = j
    · subst hij
      simp at h
      subst h
      exact List.mem_cons_self
    · have : (i == j) = false := by simpa using hij
      rw [this] at h
      exact List.mem_cons_of_mem _ (ih h)
def cPost (D : va_G) (A : Nat → Prop) (P : va_W → Prop) : Array Value → State → Outcome → State → Prop := fun _ st oc t => (oc = .returned none ∧ ∃ w1 : va_W, P w1 ∧ va_P D vwCl w1 t.heap ∧ va_D A w1) ∧ va_F A st t
def cPre (D : va_G) (cA adS : Nat → Nat) (h0 : Nat) (e0 : va_E) (sz : Nat) (U : State) : Prop := U.heap.size = sz ∧ va_P D vwCl [(h0, e0)] U.heap ∧ cK D cA U ∧ gStr adS (va_A [(h0, e0)] sz) U U.heap
/-- a constructor's contract: on a new object at h0 it returns, and the cells are as P says -/
def cMet (l : Launch) (y : MethodName) (cc : ByteArray) (nL fr lm mc ms : Nat) (D : va_G) (cA adS : Nat → Nat) (h0 : Nat) (extra : List Value) (e0 : va_E) (P : va_W → Prop) : Prop :=
  ∀ sz : Nat, Met l y (Cond.code y cc nL none :: TBL) { frames := fr, cells := mc, slots := ms, locals := lm } (va_Pc (.ref h0 :: extra) (cPre D cA adS h0 e0 sz)) (cPost D (va_A [(h0, e0)] sz) P) mc ms (va_A [(h0, e0)] sz)
theorem cK.warm {D : va_G} {cA : Nat → ClassId} {s U : State} (hW : s.WarmedH U.vm) (h : cK D cA s) : cK D cA U := ⟨gK.warm hW h.1, va_AO.moved hW.alike h.2.1, va_AOA.moved hW.alike h.2.2⟩
theorem cK.calling {D : va_G} {cA : Nat → ClassId} {U : State} (h : cK D cA U) (g : JFrame) (mk : MethodId) (a : Array Value) : cK D cA (U.calling g mk a) := ⟨h.1.calling g mk a, va_AO.moved (u := U) (U := U.calling g mk a) (Vm.Alike.refl U.vm) h.2.1, va_AOA.moved (u := U) (U := U.calling g mk a) (Vm.Alike.refl U.vm) h.2.2⟩
section CR
variable {p : Program} {l : Launch} {e : Env} {R : Room} {s : State} {m : MethodId} {args : Array Value} {below : List Frame} {meth : Method} {c : Code} {D : va_G} {cA adS : Nat → Nat} {A : Nat → Prop} {nL cells slots : Nat} {Q : State → Prop} {cc : ByteArray} {own : String} {pc : Nat} {lo : List (Nat × Value)} {st : List Value} {ws : va_W}
theorem cn_aload_n {n : Fin 4} {i x : Nat} (C : cC p c cc m s args nL own D cA adS A) (hd : decode cc pc = .ok (.aload_n n, 1)) (hi : (n : Nat) = i) (hk : lo.lookup i = some (.ref x)) (k : cW p l e R s m args below meth c D A nL cells slots Q (pc + 1) lo (.ref x :: st) ws) : cW p l e R s m args below meth c D A nL cells slots Q pc lo st ws := fun H locs ls hP hD hS hl => lv_aload_n C.1 C.2.1 hd hi (clk hl hk) (k H locs ls hP hD hS hl)
theorem cn_iload_n {n : Fin 4} {i : Nat} {x : Int32} (C : cC p c cc m s args nL own D cA adS A) (hd : decode cc pc = .ok (.iload_n n, 1)) (hi : (n : Nat) = i) (hk : lo.lookup i = some (.int x)) (k : cW p l e R s m args below meth c D A nL cells slots Q (pc + 1) lo (.int x :: st) ws) : cW p l e R s m args below meth c D A nL cells slots Q pc lo st ws := fun H locs ls hP hD hS hl => lv_iload_n C.1 C.2.1 hd hi (clk hl hk) (k H locs ls hP hD hS hl)
theorem cn_istore_n {n : Fin 4} {i : Nat} {x : Int32} {lo2 : List (Nat × Value)} (C : cC p c cc m s args nL own D cA adS A) (hd : decode cc pc = .ok (.istore_n n, 1)) (hi : (n : Nat) = i) (hn : i < nL) (hlo : (i, Value.int x) :: lo.filter (fun q => !(q.1 == i) && !(q.1 + 1 == i && q.2.category == 2)) = lo2) (k : cW p l e R s m args below meth c D A nL cells slots Q (pc + 1) lo2 st ws) : cW p l e R s m args below meth c D A nL cells slots Q pc lo (.int x :: st) ws := fun H locs ls hP hD hS hl => lv_istore_n C.1 C.2.1 hd hi hl hn hlo (fun ls2 hl2 => k H locs ls2 hP hD hS hl2)
theorem cn_astore_n {n : Fin 4} {i : Nat} {x : Nat} {lo2 : List (Nat × Value)} (C : cC p c cc m s args nL own D cA adS A) (hd : decode cc pc = .ok (.astore_n n, 1)) (hi : (n : Nat) = i) (hn : i < nL) (hlo : (i, Value.ref x) :: lo.filter (fun q => !(q.1 == i) && !(q.1 + 1 == i && q.2.category == 2)) = lo2) (k : cW p l e R s m args below meth c D A nL cells slots Q (pc + 1) lo2 st ws) : cW p l e R s m args below meth c D A nL cells slots Q pc lo (.ref x :: st) ws := fun H locs ls hP hD hS hl => lv_astore_n C.1 C.2.1 hd hi hl hn hlo (fun ls2 hl2 => k H locs ls2 hP hD hS hl2)
theorem cn_iinc {i kk : Nat} {n : Int} {x v : Int32} {lo2 : List (Nat × Value)} (C : cC p c cc m s args nL own D cA adS A) (hd : decode cc pc = .ok (.iinc i n, 3)) (hk : lo[kk]? = some (i, .int x)) (hv : x + Int32.ofInt n = v) (hn : i < nL) (hlo : (i, Value.int v) :: lo.filter (fun q => !(q.1 == i) && !(q.1 + 1 == i && q.2.category == 2)) = lo2) (k : cW p l e R s m args below meth c D A nL cells slots Q (pc + 3) lo2 st ws) : cW p l e R s m args below meth c D A nL cells slots Q pc lo st ws := fun H locs ls hP hD hS hl => lv_iinc C.1 C.2.1 hd hl hk hv hn hlo (fun ls2 hl2 => k H locs ls2 hP hD hS hl2)
theorem cn_iconst {n : Int} {v : Int32} (C : cC p c cc m s args nL own D cA adS A) (hd : decode cc pc = .ok (.iconst n, 1)) (hv : Int32.ofInt n = v) (k : cW p l e R s m args below meth c D A nL cells slots Q (pc + 1) lo (.int v :: st) ws) : cW p l e R s m args below meth c D A nL cells slots Q pc lo st ws := fun H locs ls hP hD hS hl => lv_iconst C.1 C.2.1 hd hv (k H locs ls hP hD hS hl)
theorem cn_bipush {n : Int} {v : Int32} (C : cC p c cc m s args nL own D cA adS A) (hd : decode cc pc = .ok (.bipush n, 2)) (hv : (Int8.ofInt n).toInt32 = v) (k : cW p l e R s m args below meth c D A nL cells slots Q (pc + 2) lo (.int v :: st) ws) : cW p l e R s m args below meth c D A nL cells slots Q pc lo st ws := fun H locs ls hP hD hS hl => lv_bipush C.1 C.2.1 hd hv (k H locs ls hP hD hS hl)
theorem cn_sipush {n : Int} {v : Int32} (C : cC p c cc m s args nL own D cA adS A) (hd : decode cc pc = .ok (.sipush n, 3)) (hv : (Int16.ofInt n).toInt32 = v) (k : cW p l e R s m args below meth c D A nL cells slots Q (pc + 3) lo (.int v :: st) ws) : cW p l e R s m args below meth c D A nL cells slots Q pc lo st ws := fun H locs ls hP hD hS hl => lv_sipush C.1 C.2.1 hd hv (k H locs ls hP hD hS hl)
theorem cn_lconst {n : Fin 2} {v : Int64} (C : cC p c cc m s args nL own D cA adS A) (hd : decode cc pc = .ok (.lconst n, 1)) (hv : Int64.ofNat (n : Nat) = v) (k : cW p l e R s m args below meth c D A nL cells slots Q (pc + 1) lo (.long v :: st) ws) : cW p l e R s m args below meth c D A nL cells slots Q pc lo st ws := fun H locs ls hP hD hS hl => lv_lconst C.1 C.2.1 hd hv (k H locs ls hP hD hS hl)
theorem cn_dup {v : Value} (C : cC p c cc m s args nL own D cA adS A) (hd : decode cc pc = .ok (.dup, 1)) (hv : v.category = 1) (k : cW p l e R s m args below meth c D A nL cells slots Q (pc + 1) lo (v :: v :: st) ws) : cW p l e R s m args below meth c D A nL cells slots Q pc lo (v :: st) ws := fun H locs ls hP hD hS hl => lv_dup C.1 C.2.1 hd hv (k H locs ls hP hD hS hl)
theorem cn_icmp_ge {x y : Int32} {off : Int} {tgt : Nat} (C : cC p c cc m s args nL own D cA adS A) (hd : decode cc pc = .ok (.if_icmp .ge off, 3)) (ht : (pc : Int) + off = (tgt : Int)) (kt : y ≤ x → cW p l e R s m args below meth c D A nL cells slots Q tgt lo st ws) (kf : ¬ y ≤ x → cW p l e R s m args below meth c D A nL cells slots Q (pc + 3) lo st ws) : cW p l e R s m args below meth c D A nL cells slots Q pc lo (.int y :: .int x :: st) ws := fun H locs ls hP hD hS hl => lv_icmp_ge C.1 C.2.1 hd ht (fun h => kt h H locs ls hP hD hS hl) (fun h => kf h H locs ls hP hD hS hl)
theorem cn_goto {off : Int} {tgt : Nat} (C : cC p c cc m s args nL own D cA adS A) (hd : decode cc pc = .ok (.goto off, 3)) (ht : (pc : Int) + off = (tgt : Int)) (k : cW p l e R s m args below meth c D A nL cells slots Q tgt lo st ws) : cW p l e R s m args below meth c D A nL cells slots Q pc lo st ws := fun H locs ls hP hD hS hl => lv_goto C.1 C.2.1 hd ht (k H locs ls hP hD hS hl)
theorem cn_obj {idx a : Nat} (C : cC p c cc m s args nL own D cA adS A) (hl : Cond.methodLink own idx Lib.objectInit ∈ TBL) (hi : Cond.instanceMethod Lib.objectInit ∈ TBL) (hc : Cond.code Lib.objectInit ⟨#[0xb1]⟩ 1 none ∈ TBL) (hd : decode cc pc = .ok (.invokespecial idx, 3)) (hcat : (st.map fun v => v.category).sum ≤ 8) (hR : 1 ≤ R.frames ∧ 20 ≤ R.locals) (k : cW p l e R s m args below meth c D A nL cells slots Q (pc + 3) lo st ws) : cW p l e R s m args below meth c D A nL cells slots Q pc lo (.ref a :: st) ws := fun H locs ls hP hD hS hlv =>
  W.objInit C.1 C.2.1 C.2.2.2.1 (C.2.2.2.2.1 _ hl) (C.2.2.2.2.1 _ hi) (C.2.2.2.2.1 _ hc) rfl (hlv.1.trans C.2.2.1.symm) rfl hd hR.1 (by have := hR.2; show 2 * 0 + _ + 12 ≤ _; omega) (k H locs ls hP hD hS hlv)
theorem cn_get {idx a ci kk q0 : Nat} {fin : Bool} {ty : FieldType} {fs : List Value} {v : Value} (C : cC p c cc m s args nL own D cA adS A) (hF : gF own idx ci kk fin ty) (he : ws[q0]? = some (a, .inr (ci, fs))) (hv : fs[kk]? = some v) (hd : decode cc pc = .ok (.getfield idx, 3)) (k : cW p l e R s m args below meth c D A nL cells slots Q (pc + 3) lo (v :: st) ws) : cW p l e R s m args below meth c D A nL cells slots Q pc lo (.ref a :: st) ws := by
  intro H locs ls hP hD hS hl
  obtain ⟨Cn, T, N, ty0, h1, h2, h3, h4, h5, h6, h7, h8⟩ := hF
  exact va_get C.1 C.2.1 C.2.2.2.2.1 h2 C.2.2.2.1 C.2.2.2.2.2.1.1.1 hP q0 he h1 kk h5 (C.2.2.2.2.1 _ h6) (fun _ h9 => h9) hv hd (k H locs ls hP hD hS hl)
theorem cn_put {idx a ci kk q0 : Nat} {ty : FieldType} {fs : List Value} {v : Value} {ws2 : va_W} (C : cC p c cc m s args nL own D cA adS A) (hF : gF own idx ci kk false ty) (he : ws[q0]? = some (a, .inr (ci, fs))) (hn : narrow ty v = v) (hf : fits ty v = true) (hk : kk < fs.length) (hw : ws.set q0 (a, .inr (ci, fs.set kk v)) = ws2) (hd : decode cc pc = .ok (.putfield idx, 3)) (k : cW p l e R s m args below meth c D A nL cells slots Q (pc + 3) lo st ws2) : cW p l e R s m args below meth c D A nL cells slots Q pc lo (v :: .ref a :: st) ws := by
  intro H locs ls hP hD hS hl
  subst hw
  obtain ⟨Cn, T, N, ty0, h1, h2, h3, h4, h5, h6, h7, h8⟩ := hF
  exact va_put C.1 C.2.1 C.2.2.2.2.1 h2 ty0 h3 h4 C.2.2.2.1 C.2.2.2.2.2.1.1.1 hP hD hS q0 he h1 kk h5 (C.2.2.2.2.1 _ h6) (fun _ h9 => h9) h7 h8 hn hf hk hd (fun H1 locs1 hP1 hD1 hS1 => k H1 locs1 ls hP1 hD1 hS1 hl)
/-- the declaring class of a field is the class itself -/
def gF1 (own : String) (ci kk : Nat) : Prop := ∀ (C : String) (T : u_T) (N : Nat), vwCl[ci]? = some (C, T, N) → (T kk).1 = own
theorem cn_putF {idx a ci kk q0 : Nat} {ty : FieldType} {fs : List Value} {v : Value} {ws2 : va_W} (C : cC p c cc m s args nL own D cA adS A) (hin : meth.name = "<init>") (hF : gF own idx ci kk true ty) (hF1 : gF1 own ci kk) (he : ws[q0]? = some (a, .inr (ci, fs))) (hn : narrow ty v = v) (hf : fits ty v = true) (hk : kk < fs.length) (hw : ws.set q0 (a, .inr (ci, fs.set kk v)) = ws2) (hd : decode cc pc = .ok (.putfield idx, 3)) (k : cW p l e R s m args below meth c D A nL cells slots Q (pc + 3) lo st ws2) : cW p l e R s m args below meth c D A nL cells slots Q pc lo (v :: .ref a :: st) ws := by
  intro H locs ls hP hD hS hl
  subst hw
  obtain ⟨Cn, T, N, ty0, h1, h2, h3, h4, h5, h6, h7, h8⟩ := hF
  exact va_putF C.1 C.2.1 C.2.2.2.2.1 h2 ty0 h3 h4 C.2.2.2.1 C.2.2.2.2.2.1.1.1 hP hD hS q0 he h1 kk h5 (C.2.2.2.2.1 _ h6) (fun _ h9 => h9) h7 hin (hF1 _ _ _ h1) h8 hn hf hk hd (fun H1 locs1 hP1 hD1 hS1 => k H1 locs1 ls hP1 hD1 hS1 hl)
theorem cn_newa {atype : ArrayType} {t : Nat} {n : Int32} {N : Nat} {a0 : vp_A} (C : cC p c cc m s args nL own D cA adS A) (ty : FieldType) (hty : newarray.typeOf atype = ty) (ht : (gtys cA)[t]? = some (cA t, ty)) (hra : ∀ cX : ClassId, va_RA s cX ty ↔ s.vm.findClass ("[" ++ ty.toString) = some cX) (harr : Cond.arrayClass ty ∈ TBL) (ha : ∀ cX : ClassId, vp_cell cX a0 = arrV cX N (fun _ => defaultValue ty)) (hn : ¬ n < 0) (hN : n.toNatClampNeg = N) (hb : N * componentBytes ty ≤ 536870912) (hcc : cells + 1 ≤ R.cells ∧ slots + N ≤ R.slots) (hd : decode cc pc = .ok (.newarray atype, 2))
    (k : ∀ q : Nat, cW p l e R s m args below meth c D A nL (cells + 1) (slots + N) Q (pc + 2) lo (.ref q :: st) (ws ++ [(q, .inl (cA t, a0))])) : cW p l e R s m args below meth c D A nL cells slots Q pc lo (.int n :: st) ws := by
  intro H locs ls hP hD hS hl
  refine va_newa C.1 C.2.1 (by rw [hty]; exact C.2.2.2.2.1 _ harr) hty C.2.2.2.2.2.1.1.1 hP hD hS C.2.2.2.2.2.2.2 ha hn hN hb hcc.1 hcc.2 hd (fun q cX H1 hK1 hP1 hD1 hS1 => ?_)
  have e1 := (hK1.2 6 (cX, ty) rfl).2
  have e2 := (C.2.2.2.2.2.1.1.1.2 t _ ht).2
  rw [hra] at e1 e2
  have e3 : cX = cA t := Option.some.inj (e1.symm.trans e2)
  subst e3
  exact k q H1 locs ls hP1 hD1 hS1 hl
theorem cn_new {ci idx N : Nat} {Cn : String} {T : u_T} {ty : Nat → FieldType} {fs : List Value} (C : cC p c cc m s args nL own D cA adS A) (hc : vwCl[ci]? = some (Cn, T, N)) (hin : ∀ w ∈ u_ws Cn T N, w ∈ TBL) (hty : ∀ k, k < N → parseFieldDescriptor (T k).2.2.1 = some (ty k)) (hcl : Cond.classLink own idx Cn ∈ TBL) (hins : Cond.instantiable Cn N ∈ TBL) (hini : Cond.initialized Cn ∈ TBL) (hfs : ∀ j, j < N → defaultValue (ty j) = vp_V fs j) (hcc : cells + 1 ≤ R.cells ∧ slots + N ≤ R.slots) (hd : decode cc pc = .ok (.new idx, 3))
    (k : ∀ q : Nat, cW p l e R s m args below meth c D A nL (cells + 1) (slots + N) Q (pc + 3) lo (.ref q :: st) (ws ++ [(q, .inr (ci, fs))])) : cW p l e R s m args below meth c D A nL cells slots Q pc lo st ws := fun H locs ls hP hD hS hl =>
  va_new C.1 C.2.1 C.2.2.2.2.1 hin ty hty C.2.2.2.1 (C.2.2.2.2.1 _ hcl) (C.2.2.2.2.1 _ hins) (C.2.2.2.2.1 _ hini) C.2.2.2.2.2.1.1.1 hP hD hS C.2.2.2.2.2.2.2 hc hfs hcc.1 hcc.2 hd (fun q H1 hP1 hD1 hS1 => k q H1 locs ls hP1 hD1 hS1 hl)
theorem cn_iast {q0 a n kx : Nat} {f : Nat → Int32} {x y : Int32} {ws2 : va_W} (C : cC p c cc m s args nL own D cA adS A) (he : ws[q0]? = some (a, .inl (cA 0, n, .inl f))) (hin : vp_in y n) (hx : y.toNatClampNeg = kx) (hw : ws.set q0 (a, .inl (cA 0, n, .inl (upd f kx x))) = ws2) (hd : decode cc pc = .ok (.iastore, 1)) (k : cW p l e R s m args below meth c D A nL cells slots Q (pc + 1) lo st ws2) : cW p l e R s m args below meth c D A nL cells slots Q pc lo (.int x :: .int y :: .ref a :: st) ws := by
  intro H locs ls hP hD hS hl
  subst hw
  subst hx
  exact va_iast C.1 C.2.1 C.2.2.2.2.2.1.1.1 hP hD hS q0 0 he rfl hin hd (fun H1 locs1 hP1 hD1 hS1 => k H1 locs1 ls hP1 hD1 hS1 hl)
theorem cn_aast {q0 qk a b n kx : Nat} {f : Nat → Option Nat} {vs : List Value} {y : Int32} {ws2 : va_W} (C : cC p c cc m s args nL own D cA adS A) (he : ws[q0]? = some (a, .inl (cA 4, n, .inr (.inr (.inr (.inr f)))))) (hv : ws[qk]? = some (b, .inr (4, vs))) (hin : vp_in y n) (hx : y.toNatClampNeg = kx) (hw : ws.set q0 (a, .inl (cA 4, n, .inr (.inr (.inr (.inr (va_up f kx (some b))))))) = ws2) (hd : decode cc pc = .ok (.aastore, 1)) (k : cW p l e R s m args below meth c D A nL cells slots Q (pc + 1) lo st ws2) : cW p l e R s m args below meth c D A nL cells slots Q pc lo (.ref b :: .int y :: .ref a :: st) ws := by
  intro H locs ls hP hD hS hl
  subst hw
  subst hx
  exact va_astq C.1 C.2.1 C.2.2.2.2.2.1.1.1 hP hD hS q0 4 qk 4 (r := (RX4, TX4, 2)) he rfl hv rfl hin hd (fun H1 locs1 hP1 hD1 hS1 => k H1 locs1 ls hP1 hD1 hS1 hl)
theorem cn_newq {idx : Nat} {n : Int32} {N : Nat} (C : cC p c cc m s args nL own D cA adS A) (hcl : Cond.classLink own idx RX4 ∈ TBL) (hn : ¬ n < 0) (hN : n.toNatClampNeg = N) (hb : N * 4 ≤ 536870912) (hcc : cells + 1 ≤ R.cells ∧ slots + N ≤ R.slots) (hd : decode cc pc = .ok (.anewarray idx, 3))
    (k : ∀ q : Nat, cW p l e R s m args below meth c D A nL (cells + 1) (slots + N) Q (pc + 3) lo (.ref q :: st) (ws ++ [(q, .inl (cA 4, N, .inr (.inr (.inr (.inr (fun _ => none))))))])) : cW p l e R s m args below meth c D A nL cells slots Q pc lo (.int n :: st) ws := by
  intro H locs ls hP hD hS hl
  refine va_newq C.1 C.2.1 C.2.2.2.1 (C.2.2.2.2.1 _ hcl) C.2.2.2.2.2.1.2.1 C.2.2.2.2.2.1.1.1 hP hD hS C.2.2.2.2.2.2.2 hn hN hb hcc.1 hcc.2 hd (fun q cX H1 hK1 hP1 hD1 hS1 => ?_)
  obtain ⟨_, _, _, _, _, e1⟩ := (hK1.2 6 (cX, .object RX4) rfl).2
  obtain ⟨_, _, _, _, _, e2⟩ := (C.2.2.2.2.2.1.1.1.2 4 _ rfl).2
  have e3 : cX = cA 4 := Option.some.inj (e1.symm.trans e2)
  subst e3
  exact k q H1 locs ls hP1 hD1 hS1 hl
theorem cn_newm {idx : Nat} (C : cC p c cc m s args nL own D cA adS A) (hcl : Cond.classLink own idx "[[J" ∈ TBL) (harr : Cond.arrayClass .long ∈ TBL) (hcc : cells + 5 ≤ R.cells ∧ slots + 244 ≤ R.slots) (hd : decode cc pc = .ok (.multianewarray idx 2, 4))
    (k : ∀ q r0 r1 r2 r3 : Nat, cW p l e R s m args below meth c D A nL (cells + 5) (slots + 244) Q (pc + 4) lo (.ref q :: st) (ws ++ [(q, .inl (cA 5, 4, .inr (.inr (.inr (.inr (fun n => ([r0, r1, r2, r3] : List Nat)[n]?)))))), (r0, .inl (cA 3, 60, .inr (.inl (fun _ => 0)))), (r1, .inl (cA 3, 60, .inr (.inl (fun _ => 0)))), (r2, .inl (cA 3, 60, .inr (.inl (fun _ => 0)))), (r3, .inl (cA 3, 60, .inr (.inl (fun _ => 0))))])) : cW p l e R s m args below meth c D A nL cells slots Q pc lo (.int 60 :: .int 4 :: st) ws := by
  intro H locs ls hP hD hS hl
  have hcy : s.vm.findClass (FieldType.array .long).toString = some (cA 3) := (C.2.2.2.2.2.1.1.1.2 3 _ rfl).2
  refine va_mna (X := ws) (L := []) (f := fun _ => .inr (0, [])) (ty := .long) (cy := cA 3) (N' := 4) (K' := 60) (z := (60, .inr (.inl (fun _ => 0)))) C.1 C.2.1 C.2.2.2.1 (C.2.2.2.2.1 _ hcl) C.2.2.2.2.2.1.2.2 (C.2.2.2.2.1 _ harr) hcy C.2.2.2.2.2.1.1.1 (by show va_P D vwCl (ws ++ []) H; rw [List.append_nil]; exact hP) (by show va_D A (ws ++ []); rw [List.append_nil]; exact hD) hS C.2.2.2.2.2.2.2 (by decide) (by decide) (by decide) (by decide) (by decide) (by decide) (by decide) rfl rfl (by omega) (by omega) (fun cX => arrV_new cX 60 _) hd (fun q r cX H1 _ _ hK1 hP1 hD1 hS1 => ?_)
  have e1 := (hK1.2 6 (cX, .array .long) rfl).2
  have e2 := (C.2.2.2.2.2.1.1.1.2 5 _ rfl).2
  have e3 : cX = cA 5 := Option.some.inj ((show s.vm.findClass _ = some cX from e1).symm.trans e2)
  subst e3
  have ef : (fun i : Nat => if i < 4 then some (r i) else none) = fun n => ([r 0, r 1, r 2, r 3] : List Nat)[n]? := by
    funext n
    match n with
    | 0 => rfl
    | 1 => rfl
    | 2 => rfl
    | 3 => rfl
    | n + 4 => rfl
  have ews : ((ws ++ [(q, .inl (cA 5, 4, .inr (.inr (.inr (.inr (fun i => if i < 4 then some (r i) else none))))))]) ++ va_pl ([] ++ (List.range 4).map r) (vr_up (fun _ => .inr (0, [])) ((List.range 4).map r) (.inl (cA 3, (60, .inr (.inl (fun _ => 0))))))) = ws ++ [(q, .inl (cA 5, 4, .inr (.inr (.inr (.inr (fun n => ([r 0, r 1, r 2, r 3] : List Nat)[n]?)))))), (r 0, .inl (cA 3, 60, .inr (.inl (fun _ => 0)))), (r 1, .inl (cA 3, 60, .inr (.inl (fun _ => 0)))), (r 2, .inl (cA 3, 60, .inr (.inl (fun _ => 0)))), (r 3, .inl (cA 3, 60, .inr (.inl (fun _ => 0))))] := by
    rw [ef, List.append_assoc]
    congr 1
    simp [va_pl, vr_up, List.range_succ]
  rw [ews] at hP1 hD1
  exact k q (r 0) (r 1) (r 2) (r 3) H1 locs ls hP1 hD1 hS1 hl
theorem cn_vret {P : va_W → Prop} {e0 : va_E} {h0 sz : Nat} (C : cC p c cc m s args nL own D cA adS (va_A [(h0, e0)] sz)) (hr : meth.sig.returnType = none) (hlocks : meth.locks = false) (hPw : P ws) (hd : decode cc pc = .ok (.return_, 1)) : cW p l e R s m args below meth c D (va_A [(h0, e0)] sz) nL cells slots (MQ below (cPost D (va_A [(h0, e0)] sz) P) args s cells slots (va_A [(h0, e0)] sz)) pc lo [] ws := fun H locs ls hP hD hS hl =>
  W.vret C.1 C.2.1 hr (fun t ht hW => ⟨⟨rfl, ws, hPw, by rw [ht]; exact hP, hD⟩, hS.F ht⟩) hS.2.2 hd hlocks
theorem cn_widen {k n : Nat} (h1 : cells ≤ k) (h2 : slots ≤ n) (kk : cW p l e R s m args below meth c D A nL k n Q pc lo st ws) : cW p l e R s m args below meth c D A nL cells slots Q pc lo st ws := fun H locs ls hP hD hS hl => W.widen h1 h2 (kk H locs ls hP hD hS hl)
theorem cn_pre {q0 b : Nat} {e0 : va_E} {H : Heap} {locs : List Loc} {extra : List Value} (C : cC p c cc m s args nL own D cA adS A) (hat : ws[q0]? = some (b, e0)) (hP : va_P D vwCl ws H) (hD : va_D A ws) (hS : va_S A s.heap H locs) : PreS s H (va_Pc (.ref b :: extra) (cPre D cA adS b e0 H.size)) (.ref b :: extra) := by
  have h1 : va_P D vwCl [(b, e0)] H := by
    intro k q hk
    have hz : k < 1 := (List.getElem?_eq_some_iff.mp hk).1
    rw [show k = 0 by omega] at hk
    cases hk
    exact hP q0 _ hat
  have h2 : ∀ q, va_A [(b, e0)] H.size q → A q := va_free (wc := [(b, e0)]) hD hS C.2.2.2.2.2.2.2 [q0] (by simp [hat])
  exact ⟨fun a U g mk q => ⟨q.1, q.2.1, q.2.2.1, q.2.2.2.1.calling g mk a, q.2.2.2.2.calling g mk a⟩, fun U hU hW => ⟨rfl, by rw [hU], by rw [hU]; exact h1, cK.warm hW C.2.2.2.2.2.1, gStr.go C.2.2.2.2.2.2.1 hW (fun a h1 h2 => by rw [hU]; exact hS.2.1 a h1 h2) h2⟩⟩
theorem cn_after {q0 b mc ms : Nat} {e0 : va_E} {P : va_W → Prop} {a : Array Value} {H : Heap} {locs : List Loc} {ls : Array Slot} {st0 rest : List Value} {wr : va_W} (isR : List Nat) (C : cC p c cc m s args nL own D cA adS A) (hat : ws[q0]? = some (b, e0)) (hR : isR.map (fun i => ws[i]?) = wr.map some) (hnd : va_nd isR = true) (hdis : ∀ i ∈ isR, i ∉ [q0]) (hP : va_P D vwCl ws H) (hD : va_D A ws) (hS : va_S A s.heap H locs) (hl : lv_has ls nL lo)
    (hr : va_Run p l e R s m args below meth c H locs cells slots mc ms (F0 m pc ls st0) rest (cPost D (va_A [(b, e0)] H.size) P a) (va_A [(b, e0)] H.size))
    (k : ∀ w1 : va_W, P w1 → cW p l e R s m args below meth c D A nL (cells + mc) (slots + ms) Q (pc + 3) lo rest (wr ++ w1)) : W p l e R s m args below meth c H locs cells slots Q (F0 m pc ls st0) := by
  intro T hT X
  obtain ⟨v, st₀, t, T', L, h0, X', hL, e1, e2, ⟨⟨hv, w1, hPw, hPt, hDt⟩, hz, hk⟩, stp⟩ := hr T hT X
  cases hv
  rw [h0] at hz hk
  have hF : ∀ q, va_A [(b, e0)] H.size q → A q := va_free (wc := [(b, e0)]) hD hS C.2.2.2.2.2.2.2 [q0] (by simp [hat])
  obtain ⟨hP2, hD2⟩ := va_join (wc := [(b, e0)]) (H1 := t.heap) hP hD [q0] isR (by simp [hat]) hR hnd hdis hk hF hPt hDt
  obtain ⟨t2, a1, b1⟩ := k w1 hPw T'.heap (locs ++ L) ls (by rw [e1]; exact hP2) hD2
    ⟨Nat.le_trans hS.1 (by rw [e1]; exact hz), fun q h1 h2 => by rw [e1, hk q (Nat.lt_of_lt_of_le h1 hS.1) (fun z => h2 (hF q z))]; exact hS.2.1 q h1 h2, fun q hq => by
      rcases List.mem_append.mp hq with h | h
      · exact hS.2.2 q h
      · exact hF _ (hL q h)⟩ hl T' rfl X'
  exact ⟨t2, stp t2 a1, b1⟩
theorem cn_inv {idx nL2 n q0 b fr2 lm2 mc ms : Nat} {y : MethodName} {cy : ByteArray} {e0 : va_E} {P : va_W → Prop} {wr : va_W} (extra rest : List Value) (isR : List Nat) (C : cC p c cc m s args nL own D cA adS A) (hM : cMet l y cy nL2 fr2 lm2 mc ms D cA adS b extra e0 P) (hat : ws[q0]? = some (b, e0)) (hR : isR.map (fun i => ws[i]?) = wr.map some) (hnd : va_nd isR = true) (hdis : ∀ i ∈ isR, i ∉ [q0])
    (hT : gT y cy nL2 none n) (hl : Cond.methodLink own idx y ∈ TBL) (hi : Cond.instanceMethod y ∈ TBL) (hy : y.name = "<init>") (hn : extra.length = n) (hst : st = extra.reverse ++ .ref b :: rest) (hRm : fr2 + 1 ≤ R.frames ∧ 8 + (nL2 + 11) + lm2 ≤ R.locals) (hcc : cells + mc ≤ R.cells ∧ slots + ms ≤ R.slots) (hcat : (rest.map fun v => v.category).sum ≤ 8) (hd : decode cc pc = .ok (.invokespecial idx, 3))
    (k : ∀ w1 : va_W, P w1 → cW p l e R s m args below meth c D A nL (cells + mc) (slots + ms) Q (pc + 3) lo rest (wr ++ w1)) : cW p l e R s m args below meth c D A nL cells slots Q pc lo st ws := by
  intro H locs ls hP hD hS hlv
  subst hst
  refine cn_after isR C hat hR hnd hdis hP hD hS hlv (a := (Value.ref b :: extra).toArray) (va_runI (n := n) (bytes := cy) (maxL := nL2) (b := b) (As := extra) (rest := rest) ⟨C.1, C.2.1, C.2.2.1, C.2.2.2.1, C.2.2.2.2.1⟩ (hM H.size) ⟨⟨rfl, rfl, hRm.1, hRm.2, gws C.2.2.2.2.1 hT.2.1, List.mem_cons_self, C.2.2.2.2.1 _ hT.2.1, C.2.2.2.2.1 _ hT.1, hT.2.2.1, hT.len, C.2.2.2.2.1 _ hl⟩, hy, C.2.2.2.2.1 _ hi⟩ (cn_pre C hat hP hD hS) rfl hn hlv.1 rfl (lv_room hcat) hd hcc) k
theorem cn_invN {idx nL2 n q0 b fr2 lm2 mc ms : Nat} {y : MethodName} {cy : ByteArray} {e0 : va_E} {P : va_W → Prop} {wr : va_W} {host : String} (extra rest : List Value) (isR : List Nat) (C : cC p c cc m s args nL own D cA adS A) (hM : cMet l y cy nL2 fr2 lm2 mc ms D cA adS b extra e0 P) (hat : ws[q0]? = some (b, e0)) (hR : isR.map (fun i => ws[i]?) = wr.map some) (hnd : va_nd isR = true) (hdis : ∀ i ∈ isR, i ∉ [q0])
    (hT : gT y cy nL2 none n) (hl : Cond.methodLinkNest own idx y host ∈ NST) (hi : Cond.instanceMethod y ∈ TBL) (hy : y.name = "<init>") (hn : extra.length = n) (hst : st = extra.reverse ++ .ref b :: rest) (hRm : fr2 + 1 ≤ R.frames ∧ 8 + (nL2 + 11) + lm2 ≤ R.locals) (hcc : cells + mc ≤ R.cells ∧ slots + ms ≤ R.slots) (hcat : (rest.map fun v => v.category).sum ≤ 8) (hd : decode cc pc = .ok (.invokespecial idx, 3))
    (k : ∀ w1 : va_W, P w1 → cW p l e R s m args below meth c D A nL (cells + mc) (slots + ms) Q (pc + 3) lo rest (wr ++ w1)) : cW p l e R s m args below meth c D A nL cells slots Q pc lo st ws := by
  intro H locs ls hP hD hS hlv
  subst hst
  refine cn_after isR C hat hR hnd hdis hP hD hS hlv (a := (Value.ref b :: extra).toArray) (va_runIN (n := n) (bytes := cy) (maxL := nL2) (b := b) (As := extra) (rest := rest) ⟨C.1, C.2.1, C.2.2.1, C.2.2.2.1, C.2.2.2.2.1⟩ (hM H.size) ⟨⟨⟨rfl, rfl, hRm.1, hRm.2, gws C.2.2.2.2.1 hT.2.1, List.mem_cons_self⟩, C.2.2.2.2.1 _ hT.2.1, C.2.2.2.2.1 _ hT.1, hT.2.2.1, hT.len, va_Nw.use rfl (C.2.2.2.2.2.1.1.2 _ hl)⟩, hy, C.2.2.2.2.1 _ hi⟩ (cn_pre C hat hP hD hS) rfl hn hlv.1 rfl (lv_room hcat) hd hcc) k
/-- a constructor's contract out of its walk -/
theorem c_entry {y : MethodName} {fr lm mc ms h0 : Nat} {extra : List Value} {e0 : va_E} {P : va_W → Prop} {l : Launch} (hy : plainName y.cls = true) (hyn : y.name = "<init>") (hlen : (lg_sl (.ref h0 :: extra)).length ≤ nL)
    (body : ∀ (p : Program) (e : Env) (s : State) (m : MethodId) (args : Array Value) (below : List Frame) (meth : Method) (c : Code) (sz : Nat), cC p c cc m s args nL y.cls D cA adS (va_A [(h0, e0)] sz) → meth.sig.returnType = none → meth.locks = false → meth.name = "<init>" →
      cW p l e { frames := fr, cells := mc, slots := ms, locals := lm } s m args below meth c D (va_A [(h0, e0)] sz) nL 0 0 (MQ below (cPost D (va_A [(h0, e0)] sz) P) args s mc ms (va_A [(h0, e0)] sz)) 0 (lv_args 0 (.ref h0 :: extra)) [] [(h0, e0)]) : cMet l y cc nL fr lm mc ms D cA adS h0 extra e0 P := by
  intro sz
  refine Met.ofW (cc := cc) (maxL := nL) (ret := none) hy rfl ?_
  intro p e s m args below meth c s₁ B hml hv
  obtain ⟨rfl, hsz, hP, hK, hStr⟩ := hv
  have hts := atoms_spec (ws := Cond.code y cc nL none :: TBL) B.pre
  have hown : s.vm.findClass y.cls = some m.cls := findClass_of_methodNamed B.named
  have hin : meth.name = "<init>" := (name_of_methodNamed B.named B.method).1.trans hyn
  have C : cC p c cc m s (Value.ref h0 :: extra).toArray nL y.cls D cA adS (va_A [(h0, e0)] sz) := ⟨B.exec, B.bytes, hml, hown, fun w hw => hts w (List.mem_cons_of_mem _ hw), hK, hStr, fun q h => Or.inr (by rw [← hsz]; exact h)⟩
  have hl := lv_entry (.ref h0 :: extra) hlen
  rw [lg_entry_eq]
  have hD : va_D (va_A [(h0, e0)] sz) [(h0, e0)] := ⟨fun i j a b hi hj _ => by
    have h1 : i < 1 := (List.getElem?_eq_some_iff.mp hi).1
    have h2 : j < 1 := (List.getElem?_eq_some_iff.mp hj).1
    omega, fun k q hk => va_A.in hk⟩
  exact body p e s m _ below meth c sz C B.returns B.notSynchronized hin s.heap [] _ hP hD va_S.rf hl
theorem cn_ws {ws2 : va_W} (h : ws = ws2) (k : cW p l e R s m args below meth c D A nL cells slots Q pc lo st ws2) : cW p l e R s m args below meth c D A nL cells slots Q pc lo st ws := h ▸ k
theorem cn_perm {ws2 : va_W} (is : List Nat) (h : is.filterMap (fun i => ws[i]?) = ws2) (hm : is.map (fun i => ws[i]?) = ws2.map some) (hn : va_nd is = true) (k : cW p l e R s m args below meth c D A nL cells slots Q pc lo st ws2) : cW p l e R s m args below meth c D A nL cells slots Q pc lo st ws :=
  fun H locs ls hP hD hS hl => k H locs ls (hP.sub is h) (hD.sub is hn hm) hS hl
end CR
/-- addresses: of a list of cells, and elsewhere as they were -/
def adL (qs : List Nat) (adS : Nat → Nat) (i : Nat) : Nat := (qs[i]?).getD (adS i)
theorem gStr_ad {ad ad2 : Nat → Nat} {A : Nat → Prop} {U : State} {H : Heap} (he : ∀ i, 5000 ≤ i → ad2 i = ad i) (h : gStr ad A U H) : gStr ad2 A U H := by
  obtain ⟨h1, h2, h3, h4, h5⟩ := h
  refine ⟨?_, h2, ?_, ?_, ?_⟩
  · have e1 : (fun i => ad2 (5000 + i)) = fun i => ad (5000 + i) := funext fun i => he _ (by omega)
    have e2 : (fun i => ad2 (5100 + i)) = fun i => ad (5100 + i) := funext fun i => he _ (by omega)
    rw [e1, e2]; exact h1
  · rw [he 5200 (by omega)]; exact h3
  · rw [he 5000 (by omega)]; exact h4
  · rw [he 5001 (by omega)]; exact h5
theorem adL_str {qs : List Nat} {adS : Nat → Nat} (hq : qs.length ≤ 5000) : ∀ i, 5000 ≤ i → adL qs adS i = adS i := fun i hi => by
  unfold adL
  rw [List.getElem?_eq_none (by omega)]
  rfl
theorem gStr.sub {ad : Nat → Nat} {A B : Nat → Prop} {U : State} {H : Heap} (h : gStr ad A U H) (hB : ∀ q, B q → A q) : gStr ad B U H := by
  obtain ⟨h1, h2, h3, h4, h5⟩ := h
  exact ⟨h1.narrow hB, h2.narrow hB, h3.imp (fun h => h.narrow hB) (fun h => h.narrow hB), h4, h5⟩
section CR2
variable {p : Program} {l : Launch} {e : Env} {R : Room} {s : State} {m : MethodId} {args : Array Value} {below : List Frame} {meth : Method} {c : Code} {D : va_G} {cA adS : Nat → Nat} {A : Nat → Prop} {nL cells slots : Nat} {Q : State → Prop} {cc : ByteArray} {own : String} {pc : Nat} {lo : List (Nat × Value)} {st : List Value} {ws : va_W}
/-- a call, in a constructor, of a method of the object that has all its cells -/
theorem cn_invG {idx maxL n fr lm ci : Nat} {y : MethodName} {cy : ByteArray} {rty : Option FieldType} {fl : List Nat} {T : u_T} {N : Nat} {w2 : GW} (As rest : List Value) (qs : List Nat) (sh : GS) (w : GW) (C : cC p c cc m s args nL own D cA adS A) (hws : ws = gM cA (adL qs adS) sh w) (hq : qs.length ≤ 5000) (hAs : As.map (gconc (adL qs adS)) = As)
    (hM : gInj (adL qs adS) sh.length → gMet l y cy maxL rty fr lm D cA (adL qs adS) sh (.ref 0 :: As) w none w2) (hT : gT y cy maxL rty n) (hl : Cond.methodLink own idx y ∈ TBL) (hi : Cond.instanceMethod y ∈ TBL) (hse : Cond.selects y.cls y y ∈ TBL) (hn : As.length = n) {b : Nat} (hb : adL qs adS 0 = b) (hst : st = As.reverse ++ .ref b :: rest)
    (hs : sh[0]? = some (ci + 10, fl)) (hc : vwCl[ci]? = some (y.cls, T, N)) (hR : fr + 1 ≤ R.frames ∧ 8 + (maxL + 11) + lm ≤ R.locals) (hkk : cells ≤ R.cells ∧ slots ≤ R.slots) (hcat : (rest.map fun v => v.category).sum ≤ 8) (hd : decode cc pc = .ok (.invokevirtual idx, 3))
    (k : cW p l e R s m args below meth c D A nL cells slots Q (pc + 3) lo rest (gM cA (adL qs adS) sh w2)) : cW p l e R s m args below meth c D A nL cells slots Q pc lo st ws := by
  intro H locs ls hP hD hS hlv
  subst hst
  subst hb
  subst hws
  have hin : gInj (adL qs adS) sh.length := fun i j hi hj e => hD.1 i j _ _ (gM_at (List.getElem?_eq_getElem hi)) (gM_at (List.getElem?_eq_getElem hj)) e
  have hgA : ∀ q, gA (adL qs adS) sh.length q → A q := by
    rintro q ⟨i, hi, rfl⟩
    exact hD.2 i _ (gM_at (List.getElem?_eq_getElem hi))
  have hM2 := hM hin
  unfold gMet at hM2
  rw [List.map_cons, hAs] at hM2
  have hpre : PreV s H y.cls (adL qs adS 0) (va_Pc (gconc (adL qs adS) (.ref 0) :: As) (gPre D cA (adL qs adS) sh w)) As :=
    ⟨fun a U g mk q => ⟨q.1, q.2.1, q.2.2.1.calling g mk a, q.2.2.2.calling g mk a⟩, va_recv C.2.2.2.2.2.1.1.1 hP hc (by rw [gM_at hs, gcell_obj]), fun U hU hW => ⟨rfl, by rw [hU]; exact hP, gK.warm hW C.2.2.2.2.2.1.1, (gStr_ad (adL_str hq) (gStr.go C.2.2.2.2.2.2.1 hW (fun a h1 h2 => by rw [hU]; exact hS.2.1 a h1 h2) (fun _ h => h))).sub hgA⟩⟩
  have run := va_runV (C := y.cls) (n := n) (bytes := cy) (maxL := maxL) (ret := rty) (b := adL qs adS 0) (As := As) (rest := rest) (locs := locs) (g := F0 m pc ls (As.reverse ++ .ref (adL qs adS 0) :: rest)) (cells := cells) (slots := slots) (below := below) (meth := meth) (e := e) (l := l) (H := H) (R := R) (p := p) (own := own) (index := idx) ⟨C.1, C.2.1, C.2.2.1, C.2.2.2.1, C.2.2.2.2.1⟩ hM2 ⟨⟨rfl, rfl, hR.1, hR.2, gws C.2.2.2.2.1 hT.2.1, List.mem_cons_self, C.2.2.2.2.1 _ hT.2.1, C.2.2.2.2.1 _ hT.1, hT.2.2.1, hT.len, C.2.2.2.2.1 _ hl⟩, C.2.2.2.2.1 _ hi, C.2.2.2.2.1 _ hse⟩ hpre rfl hn hlv.1 rfl (lv_room hcat) hd hkk
  intro T' hT' X
  obtain ⟨v, st₀, t, T2, L, h0, X', hL, e1, e2, ⟨hv, hPt, hz, hk⟩, stp⟩ := run T' hT' X
  cases hv
  rw [h0] at hz hk
  obtain ⟨t2, a1, b1⟩ := k T2.heap (locs ++ L) ls (by rw [e1]; exact hPt) (by
      refine ⟨fun i j x z hi hj h => ?_, fun i x hi => ?_⟩
      · obtain ⟨s1, g1, rfl⟩ := gM_inv hi
        obtain ⟨s2, g2, rfl⟩ := gM_inv hj
        exact hin i j (List.getElem?_eq_some_iff.mp g1).1 (List.getElem?_eq_some_iff.mp g2).1 h
      · obtain ⟨s1, g1, rfl⟩ := gM_inv hi
        exact hgA _ ⟨i, (List.getElem?_eq_some_iff.mp g1).1, rfl⟩)
    ⟨Nat.le_trans hS.1 (by rw [e1]; exact hz), fun q h1 h2 => by rw [e1, hk q (Nat.lt_of_lt_of_le h1 hS.1) (fun z => h2 (hgA q z))]; exact hS.2.1 q h1 h2, fun q hq => by
      rcases List.mem_append.mp hq with h | h
      · exact hS.2.2 q h
      · exact hgA _ (hL q h)⟩ hlv T2 rfl X'
  exact ⟨t2, stp t2 a1, b1⟩
end CR2
