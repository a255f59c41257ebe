/-! A bank is read. -/
def ra (m : GW) : Nat → Int32 := fun k => m.1 1 (1816 + k)
def rb (m : GW) : Nat → Int64 := fun k => m.2 2 (24 + k)
/-- what the reference's row keeps of its plainness -/
def RZ (a : Nat → Int32) (nk : Nat) : Prop := a 7 = (-1 : Int32) ∧ ∀ k, nk ≤ k → k < 6 → a (27 + 7 * k + 4) = 0 ∧ a (27 + 7 * k + 5) = 0 ∧ a (27 + 7 * k + 6) = 0
theorem RZ.up {a : Nat → Int32} {nk q : Nat} (h : RZ a nk) (hq : q ≠ 7 ∧ (q < 27 ∨ 69 ≤ q ∨ (q - 27) % 7 < 4)) (v : Int32) : RZ (upd a q v) nk := by
  refine ⟨?_, fun k h1 h2 => ⟨?_, ?_, ?_⟩⟩
  · rw [pk_un (by omega)]; exact h.1
  · rw [pk_un (by omega)]; exact (h.2 k h1 h2).1
  · rw [pk_un (by omega)]; exact (h.2 k h1 h2).2.1
  · rw [pk_un (by omega)]; exact (h.2 k h1 h2).2.2
/-- all that the rest of the reference's world keeps while a text is read -/
def KM (m m' : GW) : Prop := (∀ k, (k < 10 ∨ 23 < k) → m'.1 0 k = m.1 0 k) ∧ (∀ i, i ≠ 0 → i ≠ 1 → i ≠ 7 → i ≠ 8 → m'.1 i = m.1 i) ∧ (∀ k, (k < 1816 ∨ 2270 ≤ k) → m'.1 1 k = m.1 1 k) ∧ (∀ i, i ≠ 2 → m'.2 i = m.2 i) ∧ (∀ k, (k < 24 ∨ 30 ≤ k) → m'.2 2 k = m.2 2 k)
def BP (y m : GW) (B : Nat → Nat) (n T i nc nr nk nl f : Nat) : Prop :=
  (SY (gsub y e_shBR_shT_1) m B n T i ∧ NE (gsub y e_shBR_shT_1) m) ∧ (Bq (gsub y e_shBR_shB_6) (ra m) (rb m) nc nr nk nl ∧ Bi (ra m) nc nr nk nl ∧ RZ (ra m) nk) ∧
  (m.1 0 20 = nI f ∧ f < 64 ∧ y.1 0 2 = (if f.testBit 0 = true then 1 else 0) ∧ y.1 0 3 = (if f.testBit 1 = true then 1 else 0))
def PO (m : GW) (B : Nat → Nat) (n T i : Nat) (o1 o2 : Option (Int32 × GW)) : Prop :=
  (∃ y' m' nc nr nk nl f j, o1 = some (1, y') ∧ o2 = some (1, m') ∧ BP y' m' B n T j nc nr nk nl f ∧ i < j ∧ KM m m') ∨
  (∃ y' m', o1 = some (0, y') ∧ o2 = some (0, m') ∧ FE (gsub y' e_shBR_shT_1) m' ∧ KM m m')
section
variable {y m : GW} {B : Nat → Nat} {n T i nc nr nk nl f : Nat}
theorem KM.rf : KM m m := ⟨fun _ _ => rfl, fun _ _ _ _ _ => rfl, fun _ _ => rfl, fun _ _ => rfl, fun _ _ => rfl⟩
theorem KM.tr {m1 m2 : GW} (h : KM m m1) (g : KM m1 m2) : KM m m2 := ⟨fun k hk => (g.1 k hk).trans (h.1 k hk), fun i h1 h2 h3 h4 => (g.2.1 i h1 h2 h3 h4).trans (h.2.1 i h1 h2 h3 h4), fun k hk => (g.2.2.1 k hk).trans (h.2.2.1 k hk), fun i hi => (g.2.2.2.1 i hi).trans (h.2.2.2.1 i hi), fun k hk => (g.2.2.2.2 k hk).trans (h.2.2.2.2 k hk)⟩
theorem Fk.km {m' : GW} (h : Fk m m') : KM m m' := ⟨fun k hk => h.2.2 k (by omega), fun i h1 _ _ _ => h.2.1 i h1, fun k _ => by rw [h.2.1 1 (by omega)], fun i _ => by rw [h.1], fun k _ => by rw [h.1]⟩
theorem Fr.km {m' : GW} (h : Fr m m') : KM m m' := ⟨fun k hk => h.2.2 k (by omega), fun i h1 _ _ _ => h.2.1 i h1, fun k _ => by rw [h.2.1 1 (by omega)], fun i _ => by rw [h.1], fun k _ => by rw [h.1]⟩
theorem Fb.km {m' : GW} (h : Fb m m') : KM m m' := ⟨fun k hk => h.2.2 k (by omega), fun i h1 _ h3 _ => h.2.1 i h1 h3, fun k _ => by rw [h.2.1 1 (by omega) (by omega)], fun i _ => by rw [h.1], fun k _ => by rw [h.1]⟩
theorem KM.row {r : Nat} (hr : 1816 ≤ r ∧ r < 2270) (v : Int32) : KM m (gI m 1 r v) := ⟨fun _ _ => rfl, fun i _ h2 _ _ => funext fun q => if_neg (fun z => h2 z.1), fun k hk => if_neg (by omega), fun _ _ => rfl, fun _ _ => rfl⟩
theorem KM.flag (v : Int32) : KM m (gI m 0 20 v) := ⟨fun k hk => if_neg (by omega), fun i h1 _ _ _ => funext fun q => if_neg (fun z => h1 z.1), fun _ _ => rfl, fun _ _ => rfl, fun _ _ => rfl⟩
theorem ra_row {k : Nat} (v : Int32) : ra (gI m 1 (1816 + k) v) = upd (ra m) k v := by
  funext q
  show (if 1 = 1 ∧ 1816 + q = 1816 + k then v else m.1 1 (1816 + q)) = if q = k then v else m.1 1 (1816 + q)
  by_cases e : q = k
  · rw [if_pos e, if_pos ⟨rfl, by omega⟩]
  · rw [if_neg e, if_neg (by omega)]
theorem ra_fr {m' : GW} (h : Fr m m') : ra m' = ra m := by
  unfold ra
  rw [h.2.1 1 (by omega)]
theorem rb_fr {m' : GW} (h : Fr m m') : rb m' = rb m := by
  unfold rb
  rw [h.1]
theorem PO.bb1 {o1 o2 : Option (Int32 × GW)} (h : PO m B n T i o1 o2) : PO m B n T i (o1.bind fun q => (if q.1 = 0 ∨ q.1 = 1 then some (q.1, q.2) else none)) o2 := by
  rcases h with ⟨y', m', nc, nr, nk, nl, f, j, h1, h2⟩ | ⟨y', m', h1, h2⟩
  · exact Or.inl ⟨y', m', nc, nr, nk, nl, f, j, by rw [h1]; rfl, h2⟩
  · exact Or.inr ⟨y', m', by rw [h1]; rfl, h2⟩
/-- what is amiss in the text is amiss in the bank -/
theorem PO.of {o1 o2 : Option (Int32 × GW)} {m1 : GW} {Q : GW → GW → Prop} {w : GW} (hk : KM m m1) (h : OK2 o1 o2 m1 Q) (hq : ∀ u' m', o1 = some (1, u') → o2 = some (1, m') → ¬ Q u' m') : PO m B n T i (o1.bind fun q => (if q.1 = 0 ∨ q.1 = 1 then some (q.1, gput w e_shBR_shT_1 q.2) else none)) (o2.bind fun q => (if q.1 = 0 ∨ q.1 = 1 then some (q.1, q.2) else none)) := by
  rcases h with ⟨u', m', h1, h2, h3⟩ | ⟨u', m', h1, h2, h3, h4⟩
  · exact absurd h3 (hq u' m' h1 h2)
  · exact Or.inr ⟨gput w e_shBR_shT_1 u', m', by rw [h1]; rfl, by rw [h2]; rfl, h3, hk.tr h4.km⟩
end
