/-! A world within a world (cell j of the small one is cell is[j] of the large one), and calls. -/
def gix (is : List Nat) (j : Nat) : Nat := (is[j]?).getD j
def gad (ad : Nat → Nat) (is : List Nat) : Nat → Nat := fun j => ad (gix is j)
def gsub (w : GW) (is : List Nat) : GW := (fun j k => w.1 (gix is j) k, fun j k => w.2 (gix is j) k)
def gfind : List Nat → Nat → Option Nat
  | [], _ => none
  | a :: l, i => if i = a then some 0 else (gfind l i).map (· + 1)
def gput (w : GW) (is : List Nat) (w1 : GW) : GW := (fun i k => match gfind is i with | some j => w1.1 j k | none => w.1 i k, fun i k => match gfind is i with | some j => w1.2 j k | none => w.2 i k)
def gtr (is : List Nat) (s : Nat × List Nat) : Nat × List Nat := if s.1 < 4 then s else if s.1 < 10 then (s.1, s.2.map (gix is)) else (s.1, s.2.map (fun q => if q < 2 then q else gix is (q - 2) + 2))
def gEmb (sh : GS) (is : List Nat) (sh2 : GS) : Bool := va_nd is && (is.length == sh2.length) && (List.range sh2.length).all (fun j => decide (sh[gix is j]? = (sh2[j]?).map (gtr is)))
theorem gfind_some : ∀ {is : List Nat} {i j : Nat}, gfind is i = some j → is[j]? = some i := by
  intro is
  induction is with
  | nil => intro i j h; cases h
  | cons a l ih =>
    intro i j h
    unfold gfind at h
    by_cases hi : i = a
    · rw [if_pos hi] at h
      cases h
      rw [hi]
      rfl
    · rw [if_neg hi] at h
      cases hf : gfind l i with
      | none => rw [hf] at h; cases h
      | some k =>
        rw [hf] at h
        cases h
        exact ih hf
theorem gfind_none : ∀ {is : List Nat} {i : Nat}, gfind is i = none → ∀ j : Nat, is[j]? ≠ some i := by
  intro is
  induction is with
  | nil => intro i h j hj; simp at hj
  | cons a l ih =>
    intro i h j hj
    unfold gfind at h
    by_cases hi : i = a
    · rw [if_pos hi] at h; cases h
    · rw [if_neg hi] at h
      cases hf : gfind l i with
      | some k => rw [hf] at h; cases h
      | none =>
        cases j with
        | zero => simp at hj; exact hi hj.symm
        | succ j => exact ih hf j (by simpa using hj)
theorem gix_lt {is : List Nat} {j : Nat} (h : j < is.length) : is[j]? = some (gix is j) := by
  unfold gix
  rw [List.getElem?_eq_getElem h]
  rfl
theorem gfind_of {is : List Nat} (hn : va_nd is = true) {j : Nat} (h : j < is.length) : gfind is (gix is j) = some j := by
  cases hf : gfind is (gix is j) with
  | none => exact absurd (gix_lt h) (gfind_none hf j)
  | some k => rw [va_nd_inj is hn k j _ (gfind_some hf) (gix_lt h)]
theorem gEmb_spec {sh : GS} {is : List Nat} {sh2 : GS} (h : gEmb sh is sh2 = true) : va_nd is = true ∧ is.length = sh2.length ∧ ∀ (j : Nat) (s : Nat × List Nat), sh2[j]? = some s → sh[gix is j]? = some (gtr is s) := by
  unfold gEmb at h
  simp only [Bool.and_eq_true, beq_iff_eq, List.all_eq_true, List.mem_range, decide_eq_true_eq] at h
  refine ⟨h.1.1, h.1.2, fun j s hs => ?_⟩
  rw [h.2 j (List.getElem?_eq_some_iff.mp hs).1, hs]
  rfl
theorem gfld_sub (ad : Nat → Nat) (w : GW) (is : List Nat) (j k q : Nat) : gfld (gad ad is) (gsub w is) j k q = gfld ad w (gix is j) k (if q < 2 then q else gix is (q - 2) + 2) := by
  unfold gfld
  by_cases h0 : q = 0
  · subst h0; rfl
  · by_cases h1 : q = 1
    · subst h1; rfl
    · have h2 : ¬ q < 2 := by omega
      have h3 : ¬ gix is (q - 2) + 2 = 0 := by omega
      have h4 : ¬ gix is (q - 2) + 2 = 1 := by omega
      rw [if_neg h0, if_neg h1, if_neg h2, if_neg h3, if_neg h4]
      rfl
theorem gcell_sub (cA ad : Nat → Nat) (w : GW) (is : List Nat) (j : Nat) (s : Nat × List Nat) : gcell cA (gad ad is) (gsub w is) j s = gcell cA ad w (gix is j) (gtr is s) := by
  obtain ⟨t, ps⟩ := s
  unfold gtr
  by_cases h4 : t < 4
  · rw [if_pos h4]
    unfold gcell
    by_cases h3 : t < 3
    · rw [if_pos h3, if_pos h3]; rfl
    · rw [if_neg h3, if_neg h3, if_pos (by show t = 3; omega), if_pos (by show t = 3; omega)]; rfl
  · rw [if_neg h4]
    by_cases h10 : t < 10
    · rw [if_pos h10, gcell_refs (by omega) h10, gcell_refs (by omega) h10, List.length_map]
      have e : (fun k : Nat => (ps[k]?).map (gad ad is)) = fun k : Nat => ((ps.map (gix is))[k]?).map ad := by
        funext k
        rw [List.getElem?_map]
        cases ps[k]? <;> rfl
      rw [e]
    · rw [if_neg h10]
      unfold gcell
      rw [if_neg (by show ¬ t < 3; omega), if_neg (by show ¬ t = 3; omega), if_neg h10, if_neg (by show ¬ t < 3; omega), if_neg (by show ¬ t = 3; omega), if_neg h10]
      congr 2
      apply List.ext_getElem?
      intro k
      rw [List.getElem?_mapIdx, List.getElem?_mapIdx, List.getElem?_map]
      cases ps[k]? with
      | none => rfl
      | some q => exact congrArg some (gfld_sub ad w is j k q)
theorem gP_sub {D : va_G} {cA ad : Nat → Nat} {sh sh2 : GS} {is : List Nat} {w : GW} {H : Heap} (h : gEmb sh is sh2 = true) (hP : va_P D vwCl (gM cA ad sh w) H) : va_P D vwCl (gM cA (gad ad is) sh2 (gsub w is)) H := by
  obtain ⟨h1, h2, h3⟩ := gEmb_spec h
  intro k q hk
  obtain ⟨s, hs, rfl⟩ := gM_inv hk
  rw [gcell_sub]
  exact hP (gix is k) _ (gM_at (h3 k s hs))
theorem gInj_sub {ad : Nat → Nat} {sh sh2 : GS} {is : List Nat} (h : gEmb sh is sh2 = true) (hi : gInj ad sh.length) : gInj (gad ad is) sh2.length := by
  obtain ⟨h1, h2, h3⟩ := gEmb_spec h
  have hb : ∀ j, j < sh2.length → gix is j < sh.length := fun j hj => (List.getElem?_eq_some_iff.mp (h3 j _ (List.getElem?_eq_getElem hj))).1
  intro i j hi2 hj2 e
  have e2 : gix is i = gix is j := hi _ _ (hb i hi2) (hb j hj2) e
  exact va_nd_inj is h1 i j _ (gix_lt (by omega)) (by rw [e2]; exact gix_lt (by omega))
theorem gA_sub {ad : Nat → Nat} {sh sh2 : GS} {is : List Nat} (h : gEmb sh is sh2 = true) : ∀ q, gA (gad ad is) sh2.length q → gA ad sh.length q := by
  obtain ⟨h1, h2, h3⟩ := gEmb_spec h
  rintro q ⟨j, hj, rfl⟩
  exact ⟨gix is j, (List.getElem?_eq_some_iff.mp (h3 j _ (List.getElem?_eq_getElem hj))).1, rfl⟩
theorem gP_put {D : va_G} {cA ad : Nat → Nat} {sh sh2 : GS} {is : List Nat} {w w1 : GW} {H H1 : Heap} (h : gEmb sh is sh2 = true) (hi : gInj ad sh.length) (hP : va_P D vwCl (gM cA ad sh w) H) (hk : ∀ q : Nat, q < H.size → ¬ gA (gad ad is) sh2.length q → H1[q]? = H[q]?) (hP1 : va_P D vwCl (gM cA (gad ad is) sh2 w1) H1) : va_P D vwCl (gM cA ad sh (gput w is w1)) H1 := by
  obtain ⟨h1, h2, h3⟩ := gEmb_spec h
  intro k q hq
  obtain ⟨s, hs, rfl⟩ := gM_inv hq
  cases hf : gfind is k with
  | some j =>
    have hj := gfind_some hf
    have hjl : j < is.length := (List.getElem?_eq_some_iff.mp hj).1
    have e : gix is j = k := Option.some.inj ((gix_lt hjl).symm.trans hj)
    obtain ⟨s2, hs2⟩ : ∃ s2, sh2[j]? = some s2 := ⟨_, List.getElem?_eq_getElem (by omega)⟩
    have h5 := h3 j s2 hs2
    rw [e, hs] at h5
    cases h5
    have h6 := hP1 j _ (gM_at hs2)
    rw [gcell_congr (w := gsub (gput w is w1) is) (w' := w1) (by funext b; show _ = (match gfind is (gix is j) with | some j => w1.1 j b | none => w.1 (gix is j) b); rw [e, hf]) (by funext b; show _ = (match gfind is (gix is j) with | some j => w1.2 j b | none => w.2 (gix is j) b); rw [e, hf])] at h6
    rw [gcell_sub, e] at h6
    show va_at D vwCl (ad k, _) H1
    have e2 : gad ad is j = ad k := by show ad (gix is j) = ad k; rw [e]
    rw [e2] at h6
    exact h6
  | none =>
    have h7 := hP k _ (gM_at hs)
    rw [gcell_congr (w := w) (w' := gput w is w1) (by funext b; show (match gfind is k with | some j => w1.1 j b | none => w.1 k b) = _; rw [hf]) (by funext b; show (match gfind is k with | some j => w1.2 j b | none => w.2 k b) = _; rw [hf])]
    refine va_at.kept h7 (hk _ h7.lt ?_)
    rintro ⟨j, hj, e⟩
    have hjl : gix is j < sh.length := (List.getElem?_eq_some_iff.mp (h3 j _ (List.getElem?_eq_getElem hj))).1
    have e2 : k = gix is j := hi _ _ (List.getElem?_eq_some_iff.mp hs).1 hjl e
    exact gfind_none hf j (by rw [e2]; exact gix_lt (by omega))
theorem gStr.calling {ad : Nat → Nat} {A : Nat → Prop} {U : State} {H : Heap} (h : gStr ad A U H) (g : JFrame) (mk : MethodId) (a : Array Value) : gStr ad A (U.calling g mk a) H := by
  obtain ⟨h1, h2, h3, h4, h5⟩ := h
  have hv : U.vm.Alike (U.calling g mk a).vm := Vm.Alike.refl U.vm
  exact ⟨vk_S.moved hv h1, va_Z.moved hv h2, h3.imp (va_Z.moved hv) (va_Z.moved hv), vk_R.same rfl h4, vk_R.same rfl h5⟩
theorem gK.calling {D : va_G} {cA : Nat → ClassId} {U : State} (h : gK D cA U) (g : JFrame) (mk : MethodId) (a : Array Value) : gK D cA (U.calling g mk a) := by
  refine ⟨va_K.moved (u := U) (U := U.calling g mk a) (Vm.Alike.refl U.vm) h.1, fun w hw => ?_⟩
  have h2 := h.2 w hw
  simp only [NST, List.mem_cons, List.not_mem_nil, or_false] at hw
  rcases hw with rfl | rfl | rfl | rfl | rfl | rfl | rfl | rfl | rfl | rfl | rfl <;> exact va_Nw.same rfl rfl h2
theorem gws {args : Array Value} {s : State} {y : MethodName} {cc : ByteArray} {maxL : Nat} {ret : Option FieldType} (hts : ∀ w ∈ TBL, w.before args s = true) (hc : Cond.code y cc maxL ret ∈ TBL) : ∀ w ∈ (Cond.code y cc maxL ret :: TBL), ∀ (a' : Array Value) (U : State), s.WarmedH U.vm → w.before a' U = true :=
  pay_in hts (fun w hw => by
    have h : w ∈ TBL := by
      rcases List.mem_cons.mp hw with rfl | h
      · exact hc
      · exact h
    exact ⟨h, good_of_word (TBL_good h)⟩)
section GCALL
variable {p : Program} {l : Launch} {e : Env} {R : Room} {s : State} {m : MethodId} {args : Array Value} {below : List Frame} {meth : Method} {c : Code} {D : va_G} {cA ad : Nat → Nat} {sh : GS} {nL kc ks : Nat} {Q : State → Prop} {cc : ByteArray} {ret : Option FieldType} {own : String} {pc : Nat} {lo : List (Nat × Value)} {w : GW}
theorem g_after {is : List Nat} {sh2 : GS} {w1 : GW} {r : Option Value} {a : Array Value} {H : Heap} {locs : List Loc} {ls : Array Slot} {st0 rest : List Value} (C : gC p c cc meth m s args nL ret own D cA ad sh) (hP : va_P D vwCl (gM cA ad sh w) H) (hS : va_S (gA ad sh.length) s.heap H locs) (hl : lv_has ls nL (glo ad lo)) (hemb : gEmb sh is sh2 = true)
    (hr : va_Run p l e R s m args below meth c H locs kc ks 0 0 (F0 m pc ls st0) (rest.map (gconc ad)) (gPost D cA (gad ad is) sh2 r w1 a) (gA (gad ad is) sh2.length)) (hrv : r.toList.map (gconc ad) = r.toList)
    (k : gW p l e R s m args below meth c D cA ad sh nL kc ks Q (pc + 3) lo (r.toList ++ rest) (gput w is w1)) : W p l e R s m args below meth c H locs kc ks Q (F0 m pc ls st0) := by
  intro T hT X
  obtain ⟨v, st₀, t, T', L, h0, X', hL, e1, e2, ⟨hv, hPt, hz, hk⟩, stp⟩ := hr T hT X
  cases hv
  rw [h0] at hz hk
  have hA := gA_sub (ad := ad) hemb
  obtain ⟨t2, a1, b1⟩ := k T'.heap (locs ++ L) ls (by rw [e1]; exact gP_put hemb C.2.2.2.2.2.2.2.2.2 hP hk hPt)
    ⟨Nat.le_trans hS.1 (by rw [e1]; exact hz), fun q h1 h2 => by rw [e1, hk q (Nat.lt_of_lt_of_le h1 hS.1) (fun z => h2 (hA q z))]; exact hS.2.1 q h1 h2, fun q hq => by
      rcases List.mem_append.mp hq with h | h
      · exact hS.2.2 q h
      · exact hA _ (hL q h)⟩ hl T' rfl X'
  refine ⟨t2, stp t2 ?_, b1⟩
  rw [List.map_append, hrv] at a1
  exact a1
theorem g_after0 {w1 : GW} {r : Option Value} {a : Array Value} {H : Heap} {locs : List Loc} {ls : Array Slot} {st0 rest : List Value} (hS : va_S (gA ad sh.length) s.heap H locs) (hl : lv_has ls nL (glo ad lo))
    (hr : va_Run p l e R s m args below meth c H locs kc ks 0 0 (F0 m pc ls st0) (rest.map (gconc ad)) (gPost D cA ad sh r w1 a) (gA ad sh.length)) (hrv : r.toList.map (gconc ad) = r.toList)
    (k : gW p l e R s m args below meth c D cA ad sh nL kc ks Q (pc + 3) lo (r.toList ++ rest) w1) : W p l e R s m args below meth c H locs kc ks Q (F0 m pc ls st0) := by
  intro T hT X
  obtain ⟨v, st₀, t, T', L, h0, X', hL, e1, e2, ⟨hv, hPt, hz, hk⟩, stp⟩ := hr T hT X
  cases hv
  rw [h0] at hz hk
  obtain ⟨t2, a1, b1⟩ := k T'.heap (locs ++ L) ls (by rw [e1]; exact hPt)
    ⟨Nat.le_trans hS.1 (by rw [e1]; exact hz), fun q h1 h2 => by rw [e1, hk q (Nat.lt_of_lt_of_le h1 hS.1) h2]; exact hS.2.1 q h1 h2, fun q hq => by
      rcases List.mem_append.mp hq with h | h
      · exact hS.2.2 q h
      · exact hL q h⟩ hl T' rfl X'
  refine ⟨t2, stp t2 ?_, b1⟩
  rw [List.map_append, hrv] at a1
  exact a1
/-- what the tables say of a called method of ours -/
def gT (y : MethodName) (cy : ByteArray) (maxL : Nat) (rty : Option FieldType) (n : Nat) : Prop := Cond.initialized y.cls ∈ TBL ∧ Cond.code y cy maxL rty ∈ TBL ∧ (y.cls ≠ "java/lang/invoke/MethodHandle" ∧ y.cls ≠ "java/lang/invoke/VarHandle") ∧ (parseMethodDescriptor y.desc).map (fun d => d.parameters.length) = some n
theorem gT.len {y : MethodName} {cy : ByteArray} {maxL n : Nat} {rty : Option FieldType} (h : gT y cy maxL rty n) : ∀ sig, parseMethodDescriptor y.desc = some sig → n = sig.parameters.length := fun sig hs => by
  have h2 := h.2.2.2
  rw [hs] at h2
  exact (Option.some.inj h2).symm
theorem gB {idx maxL n : Nat} {y : MethodName} {cy : ByteArray} {rty : Option FieldType} {fr lm : Nat} (C : gC p c cc meth m s args nL ret own D cA ad sh) (hT : gT y cy maxL rty n) (hl : Cond.methodLink own idx y ∈ TBL) (hR : fr + 1 ≤ R.frames ∧ 8 + (maxL + 11) + lm ≤ R.locals) :
    CallB R s args own idx y cy maxL rty (Cond.code y cy maxL rty :: TBL) { frames := fr, cells := 0, slots := 0, locals := lm } 0 0 n :=
  ⟨rfl, rfl, hR.1, hR.2, gws C.2.2.2.2.2.2.1 hT.2.1, List.mem_cons_self, C.2.2.2.2.2.2.1 _ hT.2.1, C.2.2.2.2.2.2.1 _ hT.1, hT.2.2.1, hT.len, C.2.2.2.2.2.2.1 _ hl⟩
theorem gCN {idx maxL n : Nat} {y : MethodName} {host : String} {cy : ByteArray} {rty : Option FieldType} {fr lm : Nat} (C : gC p c cc meth m s args nL ret own D cA ad sh) (hT : gT y cy maxL rty n) (hl : Cond.methodLinkNest own idx y host ∈ NST) (hR : fr + 1 ≤ R.frames ∧ 8 + (maxL + 11) + lm ≤ R.locals) :
    va_CN R s args own idx y host cy maxL rty (Cond.code y cy maxL rty :: TBL) { frames := fr, cells := 0, slots := 0, locals := lm } 0 0 n :=
  ⟨⟨rfl, rfl, hR.1, hR.2, gws C.2.2.2.2.2.2.1 hT.2.1, List.mem_cons_self⟩, C.2.2.2.2.2.2.1 _ hT.2.1, C.2.2.2.2.2.2.1 _ hT.1, hT.2.2.1, hT.len, va_Nw.use rfl (C.2.2.2.2.2.2.2.1.2 _ hl)⟩
theorem gFix (C : gC p c cc meth m s args nL ret own D cA ad sh) : CallFix p m c cc nL s args TBL own := ⟨C.1, C.2.1, C.2.2.1, C.2.2.2.2.2.1, C.2.2.2.2.2.2.1⟩
/-- the callee's start, over a world within the caller's -/
theorem gPre_sub {is : List Nat} {sh2 : GS} {H : Heap} {locs : List Loc} (C : gC p c cc meth m s args nL ret own D cA ad sh) (hP : va_P D vwCl (gM cA ad sh w) H) (hS : va_S (gA ad sh.length) s.heap H locs) (hemb : gEmb sh is sh2 = true) (hs : ∀ i, is.length ≤ 5000 + i → gad ad is (5000 + i) = ad (5000 + i)) (hn : is.length ≤ 5000) (avs : List Value) :
    FrameBlind (va_Pc avs (gPre D cA (gad ad is) sh2 (gsub w is))) ∧ ∀ U : State, U.heap = H → s.WarmedH U.vm → va_Pc avs (gPre D cA (gad ad is) sh2 (gsub w is)) avs.toArray U := by
  refine ⟨fun a U g mk q => ⟨q.1, q.2.1, q.2.2.1.calling g mk a, q.2.2.2.calling g mk a⟩, fun U hU hW => ⟨rfl, by rw [hU]; exact gP_sub hemb hP, gK.warm hW C.2.2.2.2.2.2.2.1, ?_⟩⟩
  have h1 := gStr.go C.2.2.2.2.2.2.2.2.1 hW (fun a h1 h2 => by rw [hU]; exact hS.2.1 a h1 h2) (gA_sub (ad := ad) hemb)
  obtain ⟨g1, g2, g3, g4, g5⟩ := h1
  refine ⟨?_, g2, ?_, ?_, ?_⟩
  · have e : (fun i => gad ad is (5000 + i)) = fun i => ad (5000 + i) := funext fun i => hs i (by omega)
    have e2 : (fun i => gad ad is (5100 + i)) = fun i => ad (5100 + i) := funext fun i => by have := hs (100 + i) (by omega); rwa [← Nat.add_assoc] at this
    rw [e, e2]
    exact g1
  · rw [show gad ad is 5200 = ad 5200 from hs 200 (by omega)]; exact g3
  · rw [show gad ad is 5000 = ad 5000 from hs 0 (by omega)]; exact g4
  · rw [show gad ad is 5001 = ad 5001 from hs 1 (by omega)]; exact g5
theorem gput_sub (w : GW) (is : List Nat) : gput w is (gsub w is) = w := by
  unfold gput
  obtain ⟨w1, w2⟩ := w
  congr 1
  · funext i k
    cases hf : gfind is i with
    | none => rfl
    | some j =>
      show w1 (gix is j) k = w1 i k
      unfold gix
      rw [gfind_some hf]
      rfl
  · funext i k
    cases hf : gfind is i with
    | none => rfl
    | some j =>
      show w2 (gix is j) k = w2 i k
      unfold gix
      rw [gfind_some hf]
      rfl
theorem gPre_same {H : Heap} {locs : List Loc} (C : gC p c cc meth m s args nL ret own D cA ad sh) (hP : va_P D vwCl (gM cA ad sh w) H) (hS : va_S (gA ad sh.length) s.heap H locs) (avs : List Value) :
    FrameBlind (va_Pc avs (gPre D cA ad sh w)) ∧ ∀ U : State, U.heap = H → s.WarmedH U.vm → va_Pc avs (gPre D cA ad sh w) avs.toArray U :=
  ⟨fun a U g mk q => ⟨q.1, q.2.1, q.2.2.1.calling g mk a, q.2.2.2.calling g mk a⟩, fun U hU hW => ⟨rfl, by rw [hU]; exact hP, gK.warm hW C.2.2.2.2.2.2.2.1, gStr.go C.2.2.2.2.2.2.2.2.1 hW (fun a h1 h2 => by rw [hU]; exact hS.2.1 a h1 h2) (fun _ h => h)⟩⟩
theorem gad_str {is : List Nat} (hn : is.length ≤ 5000) : ∀ i, is.length ≤ 5000 + i → gad ad is (5000 + i) = ad (5000 + i) := by
  intro i hi
  unfold gad gix
  rw [List.getElem?_eq_none hi]
  rfl
/-- a value of the small world, as the large one sees it -/
def gup (is : List Nat) (v : Value) : Value := match v with | .ref i => .ref (gix is i) | v => v
theorem gconc_up (is : List Nat) (v : Value) : gconc (gad ad is) v = gconc ad (gup is v) := by cases v <;> rfl
theorem gmap_up (is : List Nat) (vs : List Value) : vs.map (gconc (gad ad is)) = (vs.map (gup is)).map (gconc ad) := by
  rw [List.map_map]
  exact List.map_congr_left fun v _ => gconc_up is v
/-- a call of a virtual (or private) method, over the same world -/
theorem g_invV {idx maxL n i ci fr lm : Nat} {y : MethodName} {cy : ByteArray} {rty : Option FieldType} {fl : List Nat} {T : u_T} {N : Nat} {r : Option Value} {w1 : GW} {st : List Value} (As : List Value) (rest : List Value) (C : gC p c cc meth m s args nL ret own D cA ad sh)
    (hM : gMet l y cy maxL rty fr lm D cA ad sh (.ref i :: As) w r w1) (hT : gT y cy maxL rty n) (hl : Cond.methodLink own idx y ∈ TBL) (hi : Cond.instanceMethod y ∈ TBL) (hse : Cond.selects y.cls y y ∈ TBL) (hn : As.length = n) (hst : st = As.reverse ++ .ref i :: rest)
    (hs : sh[i]? = some (ci + 10, fl)) (hc : vwCl[ci]? = some (y.cls, T, N)) (hR : fr + 1 ≤ R.frames ∧ 8 + (maxL + 11) + lm ≤ R.locals) (hkk : kc ≤ R.cells ∧ ks ≤ R.slots) (hcat : (rest.map fun v => v.category).sum ≤ 8) (hd : decode cc pc = .ok (.invokevirtual idx, 3)) (hrv : r.toList.map (gconc ad) = r.toList)
    {st2 : List Value} (h2 : r.toList ++ rest = st2) (k : gW p l e R s m args below meth c D cA ad sh nL kc ks Q (pc + 3) lo st2 w1) : gW p l e R s m args below meth c D cA ad sh nL kc ks Q pc lo st w := by
  intro H locs ls hP hS hlv
  subst hst
  subst h2
  obtain ⟨hB1, hB2⟩ := gPre_same C hP hS ((Value.ref i :: As).map (gconc ad))
  have hpre : PreV s H y.cls (ad i) (va_Pc ((Value.ref i :: As).map (gconc ad)) (gPre D cA ad sh w)) (As.map (gconc ad)) := ⟨hB1, va_recv C.2.2.2.2.2.2.2.1.1 hP hc (by rw [gM_at hs, gcell_obj]), hB2⟩
  refine g_after0 hS hlv (a := (Value.ref (ad i) :: As.map (gconc ad)).toArray) (va_runV (C := y.cls) (n := n) (bytes := cy) (maxL := maxL) (ret := rty) (b := ad i) (As := As.map (gconc ad)) (rest := rest.map (gconc ad)) (gFix C) hM ⟨gB C hT hl hR, C.2.2.2.2.2.2.1 _ hi, C.2.2.2.2.2.2.1 _ hse⟩ hpre rfl (by rw [List.length_map]; exact hn) hlv.1 ?_ ?_ hd hkk) hrv k
  · show List.map (gconc ad) (As.reverse ++ .ref i :: rest) = _
    rw [List.map_append, List.map_reverse]
    rfl
  · refine lv_room ?_
    rw [List.map_map]
    refine Nat.le_trans (Nat.le_of_eq (congrArg List.sum (List.map_congr_left fun v _ => gconc_cat ad v))) hcat
/-- a call of a virtual method, over a world within -/
theorem g_invVs {idx maxL n i ci fr lm : Nat} {y : MethodName} {cy : ByteArray} {rty : Option FieldType} {fl : List Nat} {T : u_T} {N : Nat} {r : Option Value} {w1 : GW} {st : List Value} (is : List Nat) {sh2 : GS} {i2 : Nat} {As2 : List Value} (As : List Value) (rest : List Value) (C : gC p c cc meth m s args nL ret own D cA ad sh)
    (hM : gMet l y cy maxL rty fr lm D cA (gad ad is) sh2 (.ref i2 :: As2) (gsub w is) r w1) (hemb : gEmb sh is sh2 = true) (hlen : is.length ≤ 5000) (hup : (Value.ref i2 :: As2).map (gup is) = .ref i :: As) (hT : gT y cy maxL rty n) (hl : Cond.methodLink own idx y ∈ TBL) (hi : Cond.instanceMethod y ∈ TBL) (hse : Cond.selects y.cls y y ∈ TBL) (hn : As.length = n) (hst : st = As.reverse ++ .ref i :: rest)
    (hs : sh[i]? = some (ci + 10, fl)) (hc : vwCl[ci]? = some (y.cls, T, N)) (hR : fr + 1 ≤ R.frames ∧ 8 + (maxL + 11) + lm ≤ R.locals) (hkk : kc ≤ R.cells ∧ ks ≤ R.slots) (hcat : (rest.map fun v => v.category).sum ≤ 8) (hd : decode cc pc = .ok (.invokevirtual idx, 3)) (hrv : r.toList.map (gconc ad) = r.toList)
    {st2 : List Value} {w2 : GW} (h2 : r.toList ++ rest = st2) (hw2 : gput w is w1 = w2) (k : gW p l e R s m args below meth c D cA ad sh nL kc ks Q (pc + 3) lo st2 w2) : gW p l e R s m args below meth c D cA ad sh nL kc ks Q pc lo st w := by
  intro H locs ls hP hS hlv
  subst hst
  subst h2
  subst hw2
  have hav : (Value.ref i2 :: As2).map (gconc (gad ad is)) = Value.ref (ad i) :: As.map (gconc ad) := by rw [gmap_up, hup]; rfl
  unfold gMet at hM
  rw [hav] at hM
  obtain ⟨hB1, hB2⟩ := gPre_sub C hP hS hemb (gad_str hlen) hlen (Value.ref (ad i) :: As.map (gconc ad))
  have hpre : PreV s H y.cls (ad i) (va_Pc (Value.ref (ad i) :: As.map (gconc ad)) (gPre D cA (gad ad is) sh2 (gsub w is))) (As.map (gconc ad)) := ⟨hB1, va_recv C.2.2.2.2.2.2.2.1.1 hP hc (by rw [gM_at hs, gcell_obj]), hB2⟩
  refine g_after C hP hS hlv hemb (a := (Value.ref (ad i) :: As.map (gconc ad)).toArray) (va_runV (C := y.cls) (n := n) (bytes := cy) (maxL := maxL) (ret := rty) (b := ad i) (As := As.map (gconc ad)) (rest := rest.map (gconc ad)) (gFix C) hM ⟨gB C hT hl hR, C.2.2.2.2.2.2.1 _ hi, C.2.2.2.2.2.2.1 _ hse⟩ hpre rfl (by rw [List.length_map]; exact hn) hlv.1 ?_ ?_ hd hkk) hrv k
  · show List.map (gconc ad) (As.reverse ++ .ref i :: rest) = _
    rw [List.map_append, List.map_reverse]
    rfl
  · refine lv_room ?_
    rw [List.map_map]
    refine Nat.le_trans (Nat.le_of_eq (congrArg List.sum (List.map_congr_left fun v _ => gconc_cat ad v))) hcat
/-- a call of a static method, over a world within (of no cells, where it needs none) -/
theorem g_invSs {idx maxL n fr lm : Nat} {y : MethodName} {cy : ByteArray} {rty : Option FieldType} {r : Option Value} {w1 : GW} {st : List Value} (is : List Nat) {sh2 : GS} {As2 : List Value} (As : List Value) (rest : List Value) (C : gC p c cc meth m s args nL ret own D cA ad sh)
    (hM : gMet l y cy maxL rty fr lm D cA (gad ad is) sh2 As2 (gsub w is) r w1) (hemb : gEmb sh is sh2 = true) (hlen : is.length ≤ 5000) (hup : As2.map (gup is) = As) (hT : gT y cy maxL rty n) (hl : Cond.methodLink own idx y ∈ TBL) (hi : Cond.static y ∈ TBL) (hn : As.length = n) (hst : st = As.reverse ++ rest)
    (hR : fr + 1 ≤ R.frames ∧ 8 + (maxL + 11) + lm ≤ R.locals) (hkk : kc ≤ R.cells ∧ ks ≤ R.slots) (hcat : (rest.map fun v => v.category).sum ≤ 8) (hd : decode cc pc = .ok (.invokestatic idx, 3)) (hrv : r.toList.map (gconc ad) = r.toList)
    {st2 : List Value} {w2 : GW} (h2 : r.toList ++ rest = st2) (hw2 : gput w is w1 = w2) (k : gW p l e R s m args below meth c D cA ad sh nL kc ks Q (pc + 3) lo st2 w2) : gW p l e R s m args below meth c D cA ad sh nL kc ks Q pc lo st w := by
  intro H locs ls hP hS hlv
  subst hst
  subst h2
  subst hw2
  have hav : As2.map (gconc (gad ad is)) = As.map (gconc ad) := by rw [gmap_up, hup]
  unfold gMet at hM
  rw [hav] at hM
  have hpre : PreS s H (va_Pc (As.map (gconc ad)) (gPre D cA (gad ad is) sh2 (gsub w is))) (As.map (gconc ad)) := gPre_sub C hP hS hemb (gad_str hlen) hlen (As.map (gconc ad))
  refine g_after C hP hS hlv hemb (a := (As.map (gconc ad)).toArray) (va_runS (n := n) (bytes := cy) (maxL := maxL) (ret := rty) (As := As.map (gconc ad)) (rest := rest.map (gconc ad)) (gFix C) hM ⟨gB C hT hl hR, C.2.2.2.2.2.2.1 _ hi⟩ hpre rfl (by rw [List.length_map]; exact hn) hlv.1 ?_ ?_ hd hkk) hrv k
  · show List.map (gconc ad) (As.reverse ++ rest) = _
    rw [List.map_append, List.map_reverse]
  · refine lv_room ?_
    rw [List.map_map]
    refine Nat.le_trans (Nat.le_of_eq (congrArg List.sum (List.map_congr_left fun v _ => gconc_cat ad v))) hcat
/-- the same, of a nest mate's private method -/
theorem g_invSN {idx maxL n fr lm : Nat} {y : MethodName} {host : String} {cy : ByteArray} {rty : Option FieldType} {r : Option Value} {w1 : GW} {st : List Value} (is : List Nat) {sh2 : GS} {As2 : List Value} (As : List Value) (rest : List Value) (C : gC p c cc meth m s args nL ret own D cA ad sh)
    (hM : gMet l y cy maxL rty fr lm D cA (gad ad is) sh2 As2 (gsub w is) r w1) (hemb : gEmb sh is sh2 = true) (hlen : is.length ≤ 5000) (hup : As2.map (gup is) = As) (hT : gT y cy maxL rty n) (hl : Cond.methodLinkNest own idx y host ∈ NST) (hi : Cond.static y ∈ TBL) (hn : As.length = n) (hst : st = As.reverse ++ rest)
    (hR : fr + 1 ≤ R.frames ∧ 8 + (maxL + 11) + lm ≤ R.locals) (hkk : kc ≤ R.cells ∧ ks ≤ R.slots) (hcat : (rest.map fun v => v.category).sum ≤ 8) (hd : decode cc pc = .ok (.invokestatic idx, 3)) (hrv : r.toList.map (gconc ad) = r.toList)
    {st2 : List Value} {w2 : GW} (h2 : r.toList ++ rest = st2) (hw2 : gput w is w1 = w2) (k : gW p l e R s m args below meth c D cA ad sh nL kc ks Q (pc + 3) lo st2 w2) : gW p l e R s m args below meth c D cA ad sh nL kc ks Q pc lo st w := by
  intro H locs ls hP hS hlv
  subst hst
  subst h2
  subst hw2
  have hav : As2.map (gconc (gad ad is)) = As.map (gconc ad) := by rw [gmap_up, hup]
  unfold gMet at hM
  rw [hav] at hM
  have hpre : PreS s H (va_Pc (As.map (gconc ad)) (gPre D cA (gad ad is) sh2 (gsub w is))) (As.map (gconc ad)) := gPre_sub C hP hS hemb (gad_str hlen) hlen (As.map (gconc ad))
  refine g_after C hP hS hlv hemb (a := (As.map (gconc ad)).toArray) (va_runSN (n := n) (bytes := cy) (maxL := maxL) (ret := rty) (As := As.map (gconc ad)) (rest := rest.map (gconc ad)) (gFix C) hM ⟨gCN C hT hl hR, C.2.2.2.2.2.2.1 _ hi, trivial⟩ hpre rfl (by rw [List.length_map]; exact hn) hlv.1 ?_ ?_ hd hkk) hrv k
  · show List.map (gconc ad) (As.reverse ++ rest) = _
    rw [List.map_append, List.map_reverse]
  · refine lv_room ?_
    rw [List.map_map]
    refine Nat.le_trans (Nat.le_of_eq (congrArg List.sum (List.map_congr_left fun v _ => gconc_cat ad v))) hcat
/-- a call of a static method, over the same world -/
theorem g_invS {idx maxL n fr lm : Nat} {y : MethodName} {cy : ByteArray} {rty : Option FieldType} {r : Option Value} {w1 : GW} {st : List Value} (As : List Value) (rest : List Value) (C : gC p c cc meth m s args nL ret own D cA ad sh)
    (hM : gMet l y cy maxL rty fr lm D cA ad sh As w r w1) (hT : gT y cy maxL rty n) (hl : Cond.methodLink own idx y ∈ TBL) (hi : Cond.static y ∈ TBL) (hn : As.length = n) (hst : st = As.reverse ++ rest)
    (hR : fr + 1 ≤ R.frames ∧ 8 + (maxL + 11) + lm ≤ R.locals) (hkk : kc ≤ R.cells ∧ ks ≤ R.slots) (hcat : (rest.map fun v => v.category).sum ≤ 8) (hd : decode cc pc = .ok (.invokestatic idx, 3)) (hrv : r.toList.map (gconc ad) = r.toList)
    {st2 : List Value} (h2 : r.toList ++ rest = st2) (k : gW p l e R s m args below meth c D cA ad sh nL kc ks Q (pc + 3) lo st2 w1) : gW p l e R s m args below meth c D cA ad sh nL kc ks Q pc lo st w := by
  intro H locs ls hP hS hlv
  subst hst
  subst h2
  have hpre : PreS s H (va_Pc (As.map (gconc ad)) (gPre D cA ad sh w)) (As.map (gconc ad)) := gPre_same C hP hS (As.map (gconc ad))
  refine g_after0 hS hlv (a := (As.map (gconc ad)).toArray) (va_runS (n := n) (bytes := cy) (maxL := maxL) (ret := rty) (As := As.map (gconc ad)) (rest := rest.map (gconc ad)) (gFix C) hM ⟨gB C hT hl hR, C.2.2.2.2.2.2.1 _ hi⟩ hpre rfl (by rw [List.length_map]; exact hn) hlv.1 ?_ ?_ hd hkk) hrv k
  · show List.map (gconc ad) (As.reverse ++ rest) = _
    rw [List.map_append, List.map_reverse]
  · refine lv_room ?_
    rw [List.map_map]
    refine Nat.le_trans (Nat.le_of_eq (congrArg List.sum (List.map_congr_left fun v _ => gconc_cat ad v))) hcat
def imin (x y : Int32) : Int32 := if y < x then y else x
def imax (x y : Int32) : Int32 := if x < y then y else x
theorem gcat {rest : List Value} (h : (rest.map fun v => v.category).sum ≤ 8) : ((rest.map (gconc ad)).map fun v => v.category).sum ≤ 8 := by
  rw [List.map_map]
  exact Nat.le_trans (Nat.le_of_eq (congrArg List.sum (List.map_congr_left fun v _ => gconc_cat ad v))) h
theorem g_mmin {idx : Nat} {x y : Int32} {st : List Value} (C : gC p c cc meth m s args nL ret own D cA ad sh) (hd : decode cc pc = .ok (.invokestatic idx, 3)) (hl : Cond.methodLink own idx Lib.Math.min.name ∈ TBL) (hst : Cond.static Lib.Math.min.name ∈ TBL) (hini : Cond.initialized "java/lang/Math" ∈ TBL) (hc : Cond.code Lib.Math.min.name Lib.Math.min.code 2 (some .int) ∈ TBL) (hcat : (st.map fun v => v.category).sum ≤ 8) (hR : 1 ≤ R.frames ∧ 21 ≤ R.locals) (hkk : kc ≤ R.cells ∧ ks ≤ R.slots)
    (k : gW p l e R s m args below meth c D cA ad sh nL kc ks Q (pc + 3) lo (.int (imin x y) :: st) w) : gW p l e R s m args below meth c D cA ad sh nL kc ks Q pc lo (.int y :: .int x :: st) w :=
  fun H locs ls hP hS hlv => va_mmin C.1 C.2.1 (C.2.2.1.trans hlv.1.symm) C.2.2.2.2.2.1 (C.2.2.2.2.2.2.1 _ hl) (C.2.2.2.2.2.2.1 _ hst) (C.2.2.2.2.2.2.1 _ hini) (C.2.2.2.2.2.2.1 _ hc) hR.1 (by have := gcat (ad := ad) hcat; have := hR.2; omega) hkk.1 hkk.2 hd (k H locs ls hP hS hlv)
theorem g_mmax {idx : Nat} {x y : Int32} {st : List Value} (C : gC p c cc meth m s args nL ret own D cA ad sh) (hd : decode cc pc = .ok (.invokestatic idx, 3)) (hl : Cond.methodLink own idx Lib.Math.max.name ∈ TBL) (hst : Cond.static Lib.Math.max.name ∈ TBL) (hini : Cond.initialized "java/lang/Math" ∈ TBL) (hc : Cond.code Lib.Math.max.name Lib.Math.max.code 2 (some .int) ∈ TBL) (hcat : (st.map fun v => v.category).sum ≤ 8) (hR : 1 ≤ R.frames ∧ 21 ≤ R.locals) (hkk : kc ≤ R.cells ∧ ks ≤ R.slots)
    (k : gW p l e R s m args below meth c D cA ad sh nL kc ks Q (pc + 3) lo (.int (imax x y) :: st) w) : gW p l e R s m args below meth c D cA ad sh nL kc ks Q pc lo (.int y :: .int x :: st) w :=
  fun H locs ls hP hS hlv => va_mmax C.1 C.2.1 (C.2.2.1.trans hlv.1.symm) C.2.2.2.2.2.1 (C.2.2.2.2.2.2.1 _ hl) (C.2.2.2.2.2.2.1 _ hst) (C.2.2.2.2.2.2.1 _ hini) (C.2.2.2.2.2.2.1 _ hc) hR.1 (by have := gcat (ad := ad) hcat; have := hR.2; omega) hkk.1 hkk.2 hd (k H locs ls hP hS hlv)
def gcpI (w : GW) (i0 i1 sp dp n : Nat) : GW := (fun a b => if a = i1 then va_cpy (w.1 i0) (w.1 i1) sp dp n b else w.1 a b, w.2)
def gcpL (w : GW) (i0 i1 sp dp n : Nat) : GW := (w.1, fun a b => if a = i1 then va_cpy (w.2 i0) (w.2 i1) sp dp n b else w.2 a b)
theorem gcpI_row (w : GW) (i0 i1 sp dp n : Nat) : (gcpI w i0 i1 sp dp n).1 i1 = va_cpy (w.1 i0) (w.1 i1) sp dp n := funext fun b => if_pos rfl
theorem gcpI_other (w : GW) (i0 i1 sp dp n : Nat) : ∀ j, j ≠ i1 → (gcpI w i0 i1 sp dp n).1 j = w.1 j ∧ (gcpI w i0 i1 sp dp n).2 j = w.2 j := fun j hj => ⟨funext fun b => if_neg hj, rfl⟩
theorem gcpL_row (w : GW) (i0 i1 sp dp n : Nat) : (gcpL w i0 i1 sp dp n).2 i1 = va_cpy (w.2 i0) (w.2 i1) sp dp n := funext fun b => if_pos rfl
theorem gcpL_other (w : GW) (i0 i1 sp dp n : Nat) : ∀ j, j ≠ i1 → (gcpL w i0 i1 sp dp n).1 j = w.1 j ∧ (gcpL w i0 i1 sp dp n).2 j = w.2 j := fun j hj => ⟨rfl, funext fun b => if_neg hj⟩
theorem g_cpI {idx i0 i1 n0 n1 kz kd kn : Nat} {sp dp n : Int32} {st : List Value} (C : gC p c cc meth m s args nL ret own D cA ad sh) (hd : decode cc pc = .ok (.invokestatic idx, 3)) (hl : Cond.methodLink own idx arraycopyName ∈ TBL) (hna : Cond.native arraycopyName ∈ TBL) (hst : Cond.static arraycopyName ∈ TBL) (hini : Cond.initialized "java/lang/System" ∈ TBL)
    (hs0 : sh[i0]? = some (0, [n0])) (hs1 : sh[i1]? = some (0, [n1])) (h1 : ¬ sp < 0) (h2 : ¬ dp < 0) (h3 : ¬ n < 0) (e1 : sp.toNatClampNeg = kz) (e2 : dp.toNatClampNeg = kd) (e3 : n.toNatClampNeg = kn) (h4 : kz + kn ≤ n0) (h5 : kd + kn ≤ n1) (hcat : (st.map fun v => v.category).sum ≤ 8) (hR : 1 ≤ R.frames ∧ nativeFrameWords "java/lang/System" "arraycopy" 5 + 19 ≤ R.locals)
    (k : gW p l e R s m args below meth c D cA ad sh nL kc ks Q (pc + 3) lo st (gcpI w i0 i1 kz kd kn)) : gW p l e R s m args below meth c D cA ad sh nL kc ks Q pc lo (.int n :: .int dp :: .ref i1 :: .int sp :: .ref i0 :: st) w := by
  intro H locs ls hP hS hlv
  subst e1
  subst e2
  subst e3
  refine va_copyi C.1 C.2.1 (C.2.2.1.trans hlv.1.symm) C.2.2.2.2.2.1 (C.2.2.2.2.2.2.1 _ hl) (C.2.2.2.2.2.2.1 _ hna) (C.2.2.2.2.2.2.1 _ hst) (C.2.2.2.2.2.2.1 _ hini) C.2.2.2.2.2.2.2.1.1 hP (gD_of C.2.2.2.2.2.2.2.2.2) hS i0 i1 0 0 (by rw [gM_at hs0, gcell_arr (by decide)]) (by rw [gM_at hs1, gcell_arr (by decide)]) rfl rfl rfl h1 h2 h3 h4 h5 (fun i _ => rfl) hR.1 (by have := gcat (ad := ad) hcat; have := hR.2; omega) hd (fun H1 locs1 hP1 hD1 hS1 => k H1 locs1 ls ?_ hS1 hlv)
  rw [gM_set hs1 (w' := gcpI w i0 i1 sp.toNatClampNeg dp.toNatClampNeg n.toNatClampNeg) (by rw [gcell_arr (by decide), gcpI_row]) (gcpI_other _ _ _ _ _ _)] at hP1
  exact hP1
theorem g_cpL {idx i0 i1 n0 n1 kz kd kn : Nat} {sp dp n : Int32} {st : List Value} (C : gC p c cc meth m s args nL ret own D cA ad sh) (hd : decode cc pc = .ok (.invokestatic idx, 3)) (hl : Cond.methodLink own idx arraycopyName ∈ TBL) (hna : Cond.native arraycopyName ∈ TBL) (hst : Cond.static arraycopyName ∈ TBL) (hini : Cond.initialized "java/lang/System" ∈ TBL)
    (hs0 : sh[i0]? = some (3, [n0])) (hs1 : sh[i1]? = some (3, [n1])) (h1 : ¬ sp < 0) (h2 : ¬ dp < 0) (h3 : ¬ n < 0) (e1 : sp.toNatClampNeg = kz) (e2 : dp.toNatClampNeg = kd) (e3 : n.toNatClampNeg = kn) (h4 : kz + kn ≤ n0) (h5 : kd + kn ≤ n1) (hcat : (st.map fun v => v.category).sum ≤ 8) (hR : 1 ≤ R.frames ∧ nativeFrameWords "java/lang/System" "arraycopy" 5 + 19 ≤ R.locals)
    (k : gW p l e R s m args below meth c D cA ad sh nL kc ks Q (pc + 3) lo st (gcpL w i0 i1 kz kd kn)) : gW p l e R s m args below meth c D cA ad sh nL kc ks Q pc lo (.int n :: .int dp :: .ref i1 :: .int sp :: .ref i0 :: st) w := by
  intro H locs ls hP hS hlv
  subst e1
  subst e2
  subst e3
  refine va_copyl C.1 C.2.1 (C.2.2.1.trans hlv.1.symm) C.2.2.2.2.2.1 (C.2.2.2.2.2.2.1 _ hl) (C.2.2.2.2.2.2.1 _ hna) (C.2.2.2.2.2.2.1 _ hst) (C.2.2.2.2.2.2.1 _ hini) C.2.2.2.2.2.2.2.1.1 hP (gD_of C.2.2.2.2.2.2.2.2.2) hS i0 i1 3 3 (by rw [gM_at hs0, gcell_arrL]) (by rw [gM_at hs1, gcell_arrL]) rfl rfl rfl h1 h2 h3 h4 h5 (fun i _ => rfl) hR.1 (by have := gcat (ad := ad) hcat; have := hR.2; omega) hd (fun H1 locs1 hP1 hD1 hS1 => k H1 locs1 ls ?_ hS1 hlv)
  rw [gM_set hs1 (w' := gcpL w i0 i1 sp.toNatClampNeg dp.toNatClampNeg n.toNatClampNeg) (by rw [gcell_arrL, gcpL_row]) (gcpL_other _ _ _ _ _ _)] at hP1
  exact hP1
theorem g_getiv {i idx ci kk : Nat} {fl : List Nat} {fin : Bool} {ty : FieldType} {v : Int32} {st : List Value} (C : gC p c cc meth m s args nL ret own D cA ad sh) (hF : gF own idx ci kk fin ty) (hs : sh[i]? = some (ci + 10, fl)) (hq : fl[kk]? = some 0) (hd : decode cc pc = .ok (.getfield idx, 3)) (hv : w.1 i kk = v) (k : gW p l e R s m args below meth c D cA ad sh nL kc ks Q (pc + 3) lo (.int v :: st) w) : gW p l e R s m args below meth c D cA ad sh nL kc ks Q pc lo (.ref i :: st) w := g_geti C hF hs hq hd (hv.symm ▸ k)
theorem g_getlv {i idx ci kk : Nat} {fl : List Nat} {fin : Bool} {ty : FieldType} {v : Int64} {st : List Value} (C : gC p c cc meth m s args nL ret own D cA ad sh) (hF : gF own idx ci kk fin ty) (hs : sh[i]? = some (ci + 10, fl)) (hq : fl[kk]? = some 1) (hd : decode cc pc = .ok (.getfield idx, 3)) (hv : w.2 i kk = v) (k : gW p l e R s m args below meth c D cA ad sh nL kc ks Q (pc + 3) lo (.long v :: st) w) : gW p l e R s m args below meth c D cA ad sh nL kc ks Q pc lo (.ref i :: st) w := g_getl C hF hs hq hd (hv.symm ▸ k)
end GCALL
theorem gk0 {a b : Nat} : 0 ≤ a ∧ 0 ≤ b := ⟨Nat.zero_le _, Nat.zero_le _⟩
abbrev gRm (fr lm : Nat) : Room := { frames := fr, cells := 0, slots := 0, locals := lm }
abbrev gQ (below : List Frame) (D : va_G) (cA ad : Nat → Nat) (sh : GS) (r : Option Value) (w2 : GW) (args : Array Value) (s : State) : State → Prop := MQ below (gPost D cA ad sh r w2) args s 0 0 (gA ad sh.length)
abbrev gin (x : Int32) (n : Nat) : Prop := ¬ (x < 0 ∨ n ≤ x.toNatClampNeg)
theorem gdec {cc : ByteArray} {tb : List (Nat × Jvm.ClassFile.Instr × Nat)} (h : ∀ q ∈ tb, decode cc q.1 = .ok q.2) (i : Nat) {pc n : Nat} {ins : Jvm.ClassFile.Instr} (hi : tb[i]? = some (pc, ins, n)) : decode cc pc = .ok (ins, n) := h (pc, ins, n) (List.mem_of_getElem? hi)
theorem gif {c : Prop} [Decidable c] {α : Type} {A : Option α} {q : α} (h : (if c then A else none) = some q) : c ∧ A = some q := by
  by_cases hc : c
  · rw [if_pos hc] at h; exact ⟨hc, h⟩
  · rw [if_neg hc] at h; cases h
theorem gifn {c : Prop} [Decidable c] {α : Type} {A : Option α} {q : α} (h : (if c then none else A) = some q) : ¬ c ∧ A = some q := by
  by_cases hc : c
  · rw [if_pos hc] at h; cases h
  · rw [if_neg hc] at h; exact ⟨hc, h⟩
theorem gin_k {x : Int32} {n k : Nat} (h0 : ¬ x < 0) (hk : x.toNatClampNeg = k) (h : k < n) : vp_in x n := by
  rintro (h1 | h1)
  · exact h0 h1
  · omega
theorem gCi {p : Program} {c : Code} {cc : ByteArray} {meth : Method} {m : MethodId} {s : State} {args : Array Value} {nL : Nat} {ret : Option FieldType} {own : String} {D : va_G} {cA ad : Nat → Nat} {sh : GS} (C : gC p c cc meth m s args nL ret own D cA ad sh) : gInj ad sh.length := C.2.2.2.2.2.2.2.2.2
theorem gtsw_out {x : Int32} {lo hi : Int} (h : ∀ j : Nat, j < (hi - lo + 1).toNat → ¬ x.toInt = lo + j) : x.toInt < lo ∨ hi < x.toInt := by
  by_cases h1 : x.toInt < lo
  · exact Or.inl h1
  · by_cases h2 : hi < x.toInt
    · exact Or.inr h2
    · exact absurd (by omega) (h (x.toInt - lo).toNat (by omega))
/-- how much is done at most, in loops: more than any of ours needs -/
def FU : Nat := 1000000000
theorem TBL_at1 {w : Cond} (i : Nat) (h : tables_1_1[i]? = some w) (hg : goodWord w = true) : w ∈ TBL := List.mem_filter.mpr ⟨List.mem_append_right _ (List.mem_append_left _ (List.mem_of_getElem? h)), hg⟩
theorem TBL_at2 {w : Cond} (i : Nat) (h : tables_1_2[i]? = some w) (hg : goodWord w = true) : w ∈ TBL := List.mem_filter.mpr ⟨List.mem_append_right _ (List.mem_append_right _ (List.mem_append_left _ (List.mem_of_getElem? h))), hg⟩
theorem TBL_at3 {w : Cond} (i : Nat) (h : tables_1_3[i]? = some w) (hg : goodWord w = true) : w ∈ TBL := List.mem_filter.mpr ⟨List.mem_append_right _ (List.mem_append_right _ (List.mem_append_right _ (List.mem_append_left _ (List.mem_of_getElem? h)))), hg⟩
theorem TBL_at4 {w : Cond} (i : Nat) (h : tables_1_4[i]? = some w) (hg : goodWord w = true) : w ∈ TBL := List.mem_filter.mpr ⟨List.mem_append_right _ (List.mem_append_right _ (List.mem_append_right _ (List.mem_append_right _ (List.mem_append_left _ (List.mem_of_getElem? h))))), hg⟩
theorem TBL_at5 {w : Cond} (i : Nat) (h : tables_1_5[i]? = some w) (hg : goodWord w = true) : w ∈ TBL := List.mem_filter.mpr ⟨List.mem_append_right _ (List.mem_append_right _ (List.mem_append_right _ (List.mem_append_right _ (List.mem_append_right _ (List.mem_append_left _ (List.mem_of_getElem? h)))))), hg⟩
theorem TBL_at6 {w : Cond} (i : Nat) (h : tables_1_6[i]? = some w) (hg : goodWord w = true) : w ∈ TBL := List.mem_filter.mpr ⟨List.mem_append_right _ (List.mem_append_right _ (List.mem_append_right _ (List.mem_append_right _ (List.mem_append_right _ (List.mem_append_right _ (List.mem_append_left _ (List.mem_of_getElem? h))))))), hg⟩
theorem TBL_at7 {w : Cond} (i : Nat) (h : tables_1_7[i]? = some w) (hg : goodWord w = true) : w ∈ TBL := List.mem_filter.mpr ⟨List.mem_append_right _ (List.mem_append_right _ (List.mem_append_right _ (List.mem_append_right _ (List.mem_append_right _ (List.mem_append_right _ (List.mem_append_right _ (List.mem_append_left _ (List.mem_of_getElem? h)))))))), hg⟩
theorem TBL_at8 {w : Cond} (i : Nat) (h : tables_1_8[i]? = some w) (hg : goodWord w = true) : w ∈ TBL := List.mem_filter.mpr ⟨List.mem_append_right _ (List.mem_append_right _ (List.mem_append_right _ (List.mem_append_right _ (List.mem_append_right _ (List.mem_append_right _ (List.mem_append_right _ (List.mem_append_right _ (List.mem_append_left _ (List.mem_of_getElem? h))))))))), hg⟩
theorem TBL_at9 {w : Cond} (i : Nat) (h : tables_1_9[i]? = some w) (hg : goodWord w = true) : w ∈ TBL := List.mem_filter.mpr ⟨List.mem_append_right _ (List.mem_append_right _ (List.mem_append_right _ (List.mem_append_right _ (List.mem_append_right _ (List.mem_append_right _ (List.mem_append_right _ (List.mem_append_right _ (List.mem_append_right _ (List.mem_of_getElem? h))))))))), hg⟩
