/-! A world of fixed cells: its shape is a list, its contents two functions (ints, longs) by cell and place. Every method is said over such a world. -/
abbrev GW : Type := (Nat → Nat → Int32) × (Nat → Nat → Int64)
abbrev GS : Type := List (Nat × List Nat)
def gI (w : GW) (i k : Nat) (v : Int32) : GW := (fun a b => if a = i ∧ b = k then v else w.1 a b, w.2)
def gL (w : GW) (i k : Nat) (v : Int64) : GW := (w.1, fun a b => if a = i ∧ b = k then v else w.2 a b)
theorem gI_same (w : GW) (i k : Nat) (v : Int32) : (gI w i k v).1 i k = v := if_pos ⟨rfl, rfl⟩
theorem gI_ne (w : GW) (i k : Nat) (v : Int32) {a b : Nat} (h : ¬ (a = i ∧ b = k)) : (gI w i k v).1 a b = w.1 a b := if_neg h
theorem gL_same (w : GW) (i k : Nat) (v : Int64) : (gL w i k v).2 i k = v := if_pos ⟨rfl, rfl⟩
theorem gL_ne (w : GW) (i k : Nat) (v : Int64) {a b : Nat} (h : ¬ (a = i ∧ b = k)) : (gL w i k v).2 a b = w.2 a b := if_neg h
def gfld (ad : Nat → Nat) (w : GW) (i k q : Nat) : Value := if q = 0 then .int (w.1 i k) else if q = 1 then .long (w.2 i k) else .ref (ad (q - 2))
/-- a cell: kind 0 ints, 1 bytes, 2 booleans, 3 longs (its length), 4, 5 references (to cells), from 10 on an object (its fields: 0 an int, 1 a long, j + 2 the cell j) -/
def gcell (cA : Nat → ClassId) (ad : Nat → Nat) (w : GW) (i : Nat) (s : Nat × List Nat) : va_E :=
  if s.1 < 3 then .inl (cA s.1, s.2.headD 0, .inl (w.1 i))
  else if s.1 = 3 then .inl (cA 3, s.2.headD 0, .inr (.inl (w.2 i)))
  else if s.1 < 10 then .inl (cA s.1, s.2.length, .inr (.inr (.inr (.inr (fun k => (s.2[k]?).map ad)))))
  else .inr (s.1 - 10, s.2.mapIdx (fun k q => gfld ad w i k q))
def gM (cA : Nat → ClassId) (ad : Nat → Nat) (sh : GS) (w : GW) : va_W := sh.mapIdx (fun i s => (ad i, gcell cA ad w i s))
def gconc (ad : Nat → Nat) (v : Value) : Value := match v with | .ref i => .ref (ad i) | v => v
def glo (ad : Nat → Nat) (lo : List (Nat × Value)) : List (Nat × Value) := lo.map (fun q => (q.1, gconc ad q.2))
theorem gconc_cat (ad : Nat → Nat) (v : Value) : (gconc ad v).category = v.category := by cases v <;> rfl
theorem gM_at {cA : Nat → ClassId} {ad : Nat → Nat} {sh : GS} {w : GW} {i : Nat} {s : Nat × List Nat} (h : sh[i]? = some s) : (gM cA ad sh w)[i]? = some (ad i, gcell cA ad w i s) := by
  unfold gM
  rw [List.getElem?_mapIdx, h]
  rfl
theorem gM_len {cA : Nat → ClassId} {ad : Nat → Nat} {sh : GS} {w : GW} : (gM cA ad sh w).length = sh.length := by
  unfold gM
  simp
theorem gM_inv {cA : Nat → ClassId} {ad : Nat → Nat} {sh : GS} {w : GW} {i : Nat} {q : Nat × va_E} (h : (gM cA ad sh w)[i]? = some q) : ∃ s, sh[i]? = some s ∧ q = (ad i, gcell cA ad w i s) := by
  unfold gM at h
  rw [List.getElem?_mapIdx] at h
  cases hs : sh[i]? with
  | none => rw [hs] at h; cases h
  | some s => rw [hs] at h; exact ⟨s, rfl, (Option.some.inj h).symm⟩
theorem gcell_congr {cA : Nat → ClassId} {ad : Nat → Nat} {w w' : GW} {i : Nat} (h1 : w'.1 i = w.1 i) (h2 : w'.2 i = w.2 i) (s : Nat × List Nat) : gcell cA ad w' i s = gcell cA ad w i s := by
  unfold gcell gfld
  rw [h1, h2]
theorem gM_set {cA : Nat → ClassId} {ad : Nat → Nat} {sh : GS} {w w' : GW} {i : Nat} {s : Nat × List Nat} {e : va_E} (h : sh[i]? = some s) (he : gcell cA ad w' i s = e) (ho : ∀ j, j ≠ i → w'.1 j = w.1 j ∧ w'.2 j = w.2 j) : (gM cA ad sh w).set i (ad i, e) = gM cA ad sh w' := by
  apply List.ext_getElem?
  intro j
  have hl : i < (gM cA ad sh w).length := by rw [gM_len]; exact (List.getElem?_eq_some_iff.mp h).1
  by_cases hj : j = i
  · subst hj
    rw [List.getElem?_set_self hl, gM_at h, he]
  · rw [List.getElem?_set_ne (Ne.symm hj)]
    unfold gM
    rw [List.getElem?_mapIdx, List.getElem?_mapIdx]
    cases sh[j]? with
    | none => rfl
    | some s' => simp only [Option.map_some]; rw [gcell_congr (ho j hj).1 (ho j hj).2]
theorem gI_other (w : GW) (i k : Nat) (v : Int32) : ∀ j, j ≠ i → (gI w i k v).1 j = w.1 j ∧ (gI w i k v).2 j = w.2 j := fun j hj => ⟨funext fun b => if_neg (fun h => hj h.1), rfl⟩
theorem gL_other (w : GW) (i k : Nat) (v : Int64) : ∀ j, j ≠ i → (gL w i k v).1 j = w.1 j ∧ (gL w i k v).2 j = w.2 j := fun j hj => ⟨rfl, funext fun b => if_neg (fun h => hj h.1)⟩
theorem gI_row (w : GW) (i k : Nat) (v : Int32) : (gI w i k v).1 i = upd (w.1 i) k v := by
  funext b
  unfold gI upd
  by_cases h : b = k <;> simp [h]
theorem gL_row (w : GW) (i k : Nat) (v : Int64) : (gL w i k v).2 i = vp_updL (w.2 i) k v := by
  funext b
  unfold gL vp_updL
  by_cases h : b = k <;> simp [h]
theorem gcell_arr {cA : Nat → ClassId} {ad : Nat → Nat} {w : GW} {i t n : Nat} (ht : t < 3) : gcell cA ad w i (t, [n]) = .inl (cA t, n, .inl (w.1 i)) := by
  unfold gcell
  rw [if_pos ht]
  rfl
theorem gcell_arrL {cA : Nat → ClassId} {ad : Nat → Nat} {w : GW} {i n : Nat} : gcell cA ad w i (3, [n]) = .inl (cA 3, n, .inr (.inl (w.2 i))) := rfl
theorem gcell_obj {cA : Nat → ClassId} {ad : Nat → Nat} {w : GW} {i ci : Nat} {fl : List Nat} : gcell cA ad w i (ci + 10, fl) = .inr (ci, fl.mapIdx (fun k q => gfld ad w i k q)) := by
  unfold gcell
  rw [if_neg (by show ¬ ci + 10 < 3; omega), if_neg (by show ¬ ci + 10 = 3; omega), if_neg (by show ¬ ci + 10 < 10; omega)]
  rfl
theorem gcell_refs {cA : Nat → ClassId} {ad : Nat → Nat} {w : GW} {i t : Nat} {l : List Nat} (h1 : 3 < t) (h2 : t < 10) : gcell cA ad w i (t, l) = .inl (cA t, l.length, .inr (.inr (.inr (.inr (fun k => (l[k]?).map ad))))) := by
  unfold gcell
  rw [if_neg (by show ¬ t < 3; omega), if_neg (by show ¬ t = 3; omega), if_pos h2]
/-- the addresses are apart -/
def gInj (ad : Nat → Nat) (n : Nat) : Prop := ∀ i j, i < n → j < n → ad i = ad j → i = j
def gA (ad : Nat → Nat) (n : Nat) : Nat → Prop := fun q => ∃ i, i < n ∧ q = ad i
theorem gD_of {cA : Nat → ClassId} {ad : Nat → Nat} {sh : GS} {w : GW} (h : gInj ad sh.length) : va_D (gA ad sh.length) (gM cA ad sh w) := by
  refine ⟨fun i j p q hi hj hpq => ?_, fun k q hk => ?_⟩
  · obtain ⟨s1, h1, rfl⟩ := gM_inv hi
    obtain ⟨s2, h2, rfl⟩ := gM_inv hj
    exact h i j (List.getElem?_eq_some_iff.mp h1).1 (List.getElem?_eq_some_iff.mp h2).1 hpq
  · obtain ⟨s1, h1, rfl⟩ := gM_inv hk
    exact ⟨k, (List.getElem?_eq_some_iff.mp h1).1, rfl⟩
/-- the tables' words that every state warmed up keeps -/
def TBL : List Cond := lw_tbl.filter goodWord
theorem TBL_of {w : Cond} (i : Nat) (h : lw_tbl[i]? = some w) (hg : goodWord w = true) : w ∈ TBL := List.mem_filter.mpr ⟨List.mem_of_getElem? h, hg⟩
theorem TBL_good {w : Cond} (h : w ∈ TBL) : goodWord w = true := (List.mem_filter.mp h).2
theorem TBL_in {w : Cond} (h : w ∈ TBL) : w ∈ lw_tbl := (List.mem_filter.mp h).1
/-- the links between nest mates -/
def NST : List Cond := [.methodLinkNest RX10 18 yX8_init RX10, .methodLinkNest RX10 35 yX5_init RX10, .methodLinkNest RX10 69 yX3_init RX10, .methodLinkNest RX10 79 yX7_init RX10, .methodLinkNest RX10 86 yX2_init RX10, .methodLinkNest RX10 109 yX4_init RX10, .methodLinkNest RX4 18 yX5_init RX10, .methodLinkNest RX0 87 yX10_looksBy RX10, .methodLinkNest RX0 105 yX10_greyGrown RX10, .methodLinkNest RX9 50 yX10_greyGrown RX10, .methodLinkNest RX2 37 yX10_looksBy RX10]
def gtys (cA : Nat → ClassId) : List (ClassId × FieldType) := [(cA 0, .int), (cA 1, .byte), (cA 2, .boolean), (cA 3, .long), (cA 4, .object RX4), (cA 5, .array .long)]
def gK (D : va_G) (cA : Nat → ClassId) (s : State) : Prop := va_K D vwCl (gtys cA) s ∧ ∀ w ∈ NST, va_Nw w s
theorem gK.warm {D : va_G} {cA : Nat → ClassId} {s U : State} (hW : s.WarmedH U.vm) (h : gK D cA s) : gK D cA U := by
  refine ⟨va_K.moved hW.alike h.1, fun w hw => ?_⟩
  have h2 := h.2 w hw
  simp only [NST, List.mem_cons, List.not_mem_nil, or_false] at hw
  rcases hw with rfl | rfl | rfl | rfl | rfl | rfl | rfl | rfl | rfl | rfl | rfl <;> exact va_Nw.warmM hW h2
