/-! The plans of both, and all of both worlds. -/
def rkN (r : Nat → Int32) : Nat → Nat
  | 0 => 0
  | j + 1 => if r j = (25 : Int32) then rkN r j else rkN r j + 1
def isOp (x : Int32) : Prop := x = (24 : Int32) ∨ x = (2301 : Int32) ∨ x = (2303 : Int32) ∨ x = (2327 : Int32)
def skN (r : Nat → Int32) : Nat → List Nat
  | 0 => []
  | j + 1 => if r j = (25 : Int32) then (skN r j).tail else if r j = (24 : Int32) ∨ r j = (2301 : Int32) ∨ r j = (2303 : Int32) ∨ r j = (2327 : Int32) then j :: skN r j else skN r j
def rK (a : Nat → Int32) : Nat → Int32 := fun j => a (86 + 6 * j)
/-- step s of the class's plan shows row j of the reference's -/
def Prow (p : GW) (a : Nat → Int32) (nk nc j s : Nat) : Prop :=
  (p.1 1 s = (15 : Int32) ∧ a (86 + 6 * j) = (15 : Int32) ∧ ∃ y, 1 ≤ y ∧ y ≤ 20 ∧ p.1 4 s = nI y ∧ a (86 + 6 * j + 1) = nI y) ∨
  (p.1 1 s = (16 : Int32) ∧ a (86 + 6 * j) = (16 : Int32) ∧ ∃ c d, c < nk ∧ d < nc ∧ p.1 2 s = nI c ∧ a (86 + 6 * j + 1) = nI c ∧ p.1 4 s = nI d ∧ a (86 + 6 * j + 2) = nI d) ∨
  (p.1 1 s = (17 : Int32) ∧ a (86 + 6 * j) = (17 : Int32) ∧ ∃ c d, c < nk ∧ d < nk ∧ p.1 2 s = nI c ∧ a (86 + 6 * j + 1) = nI c ∧ p.1 3 s = nI d ∧ a (86 + 6 * j + 2) = nI d) ∨
  (p.1 1 s = (18 : Int32) ∧ a (86 + 6 * j) = (18 : Int32) ∧ ∃ c d, c < nk ∧ d ≤ 50 ∧ p.1 2 s = nI c ∧ a (86 + 6 * j + 1) = nI c ∧ p.1 4 s = nI d ∧ a (86 + 6 * j + 2) = nI d) ∨
  (p.1 1 s = (19 : Int32) ∧ a (86 + 6 * j) = (19 : Int32) ∧ ∃ c, c < nk ∧ p.1 2 s = nI c ∧ a (86 + 6 * j + 1) = nI c) ∨
  (p.1 1 s = (20 : Int32) ∧ a (86 + 6 * j) = (20 : Int32) ∧ ∃ c, c < nk ∧ p.1 2 s = nI c ∧ a (86 + 6 * j + 1) = nI c) ∨
  (p.1 1 s = (21 : Int32) ∧ a (86 + 6 * j) = (21 : Int32)) ∨
  (p.1 1 s = (22 : Int32) ∧ a (86 + 6 * j) = (22 : Int32)) ∨
  (p.1 1 s = (27 : Int32) ∧ a (86 + 6 * j) = (26 : Int32)) ∨
  (p.1 1 s = (25 : Int32) ∧ a (86 + 6 * j) = (24 : Int32) ∧ ∃ y, 1 ≤ y ∧ y ≤ 99 ∧ p.1 4 s = nI y ∧ a (86 + 6 * j + 1) = nI y) ∨
  (p.1 1 s = (23 : Int32) ∧ p.1 4 s = a (86 + 6 * j + 2) ∧ p.1 6 s = a (86 + 6 * j + 5) ∧
    ((p.1 5 s = (1 : Int32) ∧ a (86 + 6 * j) = (2301 : Int32)) ∨
     (p.1 5 s = (4 : Int32) ∧ a (86 + 6 * j) = (2303 : Int32) ∧ ∃ c, c < nk ∧ p.1 2 s = nI c ∧ a (86 + 6 * j + 1) = nI c) ∨
     (p.1 5 s = (24 : Int32) ∧ a (86 + 6 * j) = (2327 : Int32) ∧ ∃ c, c < nk ∧ p.1 2 s = nI c ∧ a (86 + 6 * j + 1) = nI c)))
/-- the first M rows are shown -/
def Pr (p : GW) (a : Nat → Int32) (nk nc M : Nat) : Prop :=
  rkN (rK a) M ≤ 30 ∧ M + (skN (rK a) M).length ≤ 2 * rkN (rK a) M ∧ (∀ j, j ≤ M → (skN (rK a) j).length ≤ 3) ∧
  (∀ j, j < M → a (86 + 6 * j) = (25 : Int32) → ∃ o l, skN (rK a) j = o :: l ∧ a (86 + 6 * j + 4) = nI o) ∧
  (∀ j, j < M → a (86 + 6 * j) ≠ (25 : Int32) → Prow p a nk nc j (rkN (rK a) j)) ∧
  (∀ j, j < M → isOp (a (86 + 6 * j)) → j ∈ skN (rK a) M ∨ ∃ e l, j < e ∧ e < M ∧ a (86 + 6 * e) = (25 : Int32) ∧ skN (rK a) e = j :: l ∧ a (86 + 6 * j + 4) = nI e ∧ p.1 7 (rkN (rK a) j) = nI (rkN (rK a) e))
def Pq (p : GW) (a : Nat → Int32) (nk nc : Nat) : Prop :=
  (p.1 0 0 = (0 : Int32) ∧ a 7 = (-1 : Int32)) ∨
  (p.1 0 0 = (1 : Int32) ∧ ∃ M, a 7 = nI M ∧ Pr p a nk nc M ∧ p.1 0 1 = nI (rkN (rK a) M) ∧ skN (rK a) M = [])
theorem rkN_congr {r r' : Nat → Int32} : ∀ n, (∀ j, j < n → r' j = r j) → rkN r' n = rkN r n
  | 0, _ => rfl
  | n + 1, h => by
    show (if r' n = (25 : Int32) then rkN r' n else rkN r' n + 1) = (if r n = (25 : Int32) then rkN r n else rkN r n + 1)
    rw [h n (by omega), rkN_congr n (fun j hj => h j (by omega))]
theorem skN_congr {r r' : Nat → Int32} : ∀ n, (∀ j, j < n → r' j = r j) → skN r' n = skN r n
  | 0, _ => rfl
  | n + 1, h => by
    show (if r' n = (25 : Int32) then (skN r' n).tail else if r' n = (24 : Int32) ∨ r' n = (2301 : Int32) ∨ r' n = (2303 : Int32) ∨ r' n = (2327 : Int32) then n :: skN r' n else skN r' n) = (if r n = (25 : Int32) then (skN r n).tail else if r n = (24 : Int32) ∨ r n = (2301 : Int32) ∨ r n = (2303 : Int32) ∨ r n = (2327 : Int32) then n :: skN r n else skN r n)
    rw [h n (by omega), skN_congr n (fun j hj => h j (by omega))]
section
variable {p p' : GW} {a a' : Nat → Int32} {nk nk' nc M : Nat}
theorem Prow.congr {j s s' : Nat} (h : Prow p a nk nc j s) (hk : nk ≤ nk') (h1 : ∀ i, 1 ≤ i → i ≤ 6 → p'.1 i s' = p.1 i s) (h2 : ∀ i, i < 6 → a' (86 + 6 * j + i) = a (86 + 6 * j + i)) : Prow p' a' nk' nc j s' := by
  unfold Prow at h ⊢
  rw [h1 1 (by omega) (by omega), h1 2 (by omega) (by omega), h1 3 (by omega) (by omega), h1 4 (by omega) (by omega), h1 5 (by omega) (by omega), h1 6 (by omega) (by omega), show a' (86 + 6 * j) = a (86 + 6 * j) from h2 0 (by omega), h2 1 (by omega), h2 2 (by omega), h2 5 (by omega)]
  rcases h with h | ⟨h1, h2, c, d, h3, h⟩ | ⟨h1, h2, c, d, h3, h4, h⟩ | ⟨h1, h2, c, d, h3, h⟩ | ⟨h1, h2, c, h3, h⟩ | ⟨h1, h2, c, h3, h⟩ | h | h | h | h | ⟨h1, h2, h3, h⟩
  · exact Or.inl h
  · exact Or.inr (Or.inl ⟨h1, h2, c, d, by omega, h⟩)
  · exact Or.inr (Or.inr (Or.inl ⟨h1, h2, c, d, by omega, by omega, h⟩))
  · exact Or.inr (Or.inr (Or.inr (Or.inl ⟨h1, h2, c, d, by omega, h⟩)))
  · exact Or.inr (Or.inr (Or.inr (Or.inr (Or.inl ⟨h1, h2, c, by omega, h⟩))))
  · exact Or.inr (Or.inr (Or.inr (Or.inr (Or.inr (Or.inl ⟨h1, h2, c, by omega, h⟩)))))
  · exact Or.inr (Or.inr (Or.inr (Or.inr (Or.inr (Or.inr (Or.inl h))))))
  · exact Or.inr (Or.inr (Or.inr (Or.inr (Or.inr (Or.inr (Or.inr (Or.inl h)))))))
  · exact Or.inr (Or.inr (Or.inr (Or.inr (Or.inr (Or.inr (Or.inr (Or.inr (Or.inl h))))))))
  · exact Or.inr (Or.inr (Or.inr (Or.inr (Or.inr (Or.inr (Or.inr (Or.inr (Or.inr (Or.inl h)))))))))
  · refine Or.inr (Or.inr (Or.inr (Or.inr (Or.inr (Or.inr (Or.inr (Or.inr (Or.inr (Or.inr ⟨h1, h2, h3, ?_⟩)))))))))
    rcases h with h | ⟨h4, h5, c, h6, h⟩ | ⟨h4, h5, c, h6, h⟩
    · exact Or.inl h
    · exact Or.inr (Or.inl ⟨h4, h5, c, by omega, h⟩)
    · exact Or.inr (Or.inr ⟨h4, h5, c, by omega, h⟩)
theorem rkN_mono (r : Nat → Int32) : ∀ {i j : Nat}, i ≤ j → rkN r i ≤ rkN r j := by
  intro i j
  induction j with
  | zero => intro h; rw [show i = 0 by omega]; exact Nat.le_refl _
  | succ j ih =>
    intro h
    by_cases e : i = j + 1
    · rw [e]; exact Nat.le_refl _
    · refine Nat.le_trans (ih (by omega)) ?_
      show _ ≤ (if r j = (25 : Int32) then rkN r j else rkN r j + 1)
      split <;> omega
theorem Pr.bound (h : Pr p a nk nc M) : M ≤ 60 := by
  have h1 := h.1
  have h2 := h.2.1
  omega
theorem Pr.congr (h : Pr p a nk nc M) (hk : nk ≤ nk') (h1 : ∀ i s, 1 ≤ i → i ≤ 7 → s < 30 → p'.1 i s = p.1 i s) (h2 : ∀ k, 86 ≤ k → k < 446 → a' k = a k) : Pr p' a' nk' nc M := by
  have hM := h.bound
  have hr : ∀ j, j < M → rK a' j = rK a j := fun j hj => h2 _ (by omega) (by omega)
  have er : ∀ j, j ≤ M → rkN (rK a') j = rkN (rK a) j := fun j hj => rkN_congr j (fun i hi => hr i (by omega))
  have es : ∀ j, j ≤ M → skN (rK a') j = skN (rK a) j := fun j hj => skN_congr j (fun i hi => hr i (by omega))
  obtain ⟨q1, q2, q3, q4, q5, q6⟩ := h
  refine ⟨?_, ?_, fun j hj => ?_, fun j hj e => ?_, fun j hj e => ?_, fun j hj e => ?_⟩
  · rw [er M (Nat.le_refl M)]; exact q1
  · rw [er M (Nat.le_refl M), es M (Nat.le_refl M)]; exact q2
  · rw [es j hj]; exact q3 j hj
  · rw [h2 _ (by omega) (by omega)] at e
    obtain ⟨o, l, h3, h4⟩ := q4 j hj e
    exact ⟨o, l, (es j (by omega)).trans h3, (h2 _ (by omega) (by omega)).trans h4⟩
  · rw [h2 _ (by omega) (by omega)] at e
    have hlt : rkN (rK a) j < 30 := by
      have h3 := rkN_mono (rK a) (i := j + 1) (j := M) (by omega)
      have h4 : rkN (rK a) (j + 1) = rkN (rK a) j + 1 := if_neg e
      omega
    rw [er j (by omega)]
    exact (q5 j hj e).congr hk (fun i h3 h4 => h1 i _ h3 (by omega) hlt) (fun i hi => h2 _ (by omega) (by omega))
  · rw [h2 _ (by omega) (by omega)] at e
    have hlt : rkN (rK a) j < 30 := by
      have h3 := rkN_mono (rK a) (i := j + 1) (j := M) (by omega)
      have h4 : rkN (rK a) (j + 1) = rkN (rK a) j + 1 := if_neg (fun e2 => by
        rw [show rK a j = a (86 + 6 * j) from rfl] at e2
        rw [e2] at e
        rcases e with e | e | e | e <;> exact absurd e (by decide))
      omega
    rcases q6 j hj e with h3 | ⟨e2, l, h3, h4, h5, h6, h7, h8⟩
    · exact Or.inl (by rw [es M (Nat.le_refl M)]; exact h3)
    · refine Or.inr ⟨e2, l, h3, h4, (h2 _ (by omega) (by omega)).trans h5, (es e2 (by omega)).trans h6, (h2 _ (by omega) (by omega)).trans h7, ?_⟩
      rw [er j (by omega), er e2 (by omega), h1 7 _ (by omega) (by omega) hlt]
      exact h8
theorem Pq.congr (h : Pq p a nk nc) (hk : nk ≤ nk') (h0 : p'.1 0 0 = p.1 0 0 ∧ p'.1 0 1 = p.1 0 1) (h1 : ∀ i s, 1 ≤ i → i ≤ 7 → s < 30 → p'.1 i s = p.1 i s) (h7 : a' 7 = a 7) (h2 : ∀ k, 86 ≤ k → k < 446 → a' k = a k) : Pq p' a' nk' nc := by
  rcases h with ⟨h3, h4⟩ | ⟨h3, M, h4, h5, h6, h8⟩
  · exact Or.inl ⟨h0.1.trans h3, h7.trans h4⟩
  · have hM := h5.bound
    have hr : ∀ j, j < M → rK a' j = rK a j := fun j hj => h2 _ (by omega) (by omega)
    refine Or.inr ⟨h0.1.trans h3, M, h7.trans h4, h5.congr hk h1 h2, ?_, ?_⟩
    · rw [rkN_congr M hr]; exact h0.2.trans h6
    · rw [skN_congr M hr]; exact h8
end
/-- a bank and a plan of the class show a slot of the reference's -/
def SQ (wb wp : GW) (a : Nat → Int32) (nm : Nat → Int64) : Prop := ∃ nc nr nk nl, Bq wb a nm nc nr nk nl ∧ Bi a nc nr nk nl ∧ Pq wp a nk nc
def trT (x m : GW) (t c : Nat) : Prop :=
  (x.1 7 t = (-1 : Int32) ∧ m.1 4 t = (-1 : Int32)) ∨
  (∃ s n, s ≤ 3 ∧ n ≤ 60 ∧ x.1 7 t = nI s ∧ m.1 3 t = nI s ∧ x.1 8 t = nI n ∧ m.1 4 t = nI n ∧ ∀ k, k < n → x.2 c k = m.2 5 (60 * t + k))
def Rtr (x m : GW) : Prop := trT x m 0 3 ∧ trT x m 1 4 ∧ trT x m 2 5 ∧ trT x m 3 6
def Rtp (x m : GW) : Prop := (∃ n, n ≤ 900 ∧ x.1 9 0 = nI n ∧ m.1 0 10 = nI n ∧ ∀ k, k < n → x.1 10 k = m.1 6 k ∧ ∃ v : Int8, x.1 10 k = v.toInt32) ∧ x.1 9 4 = m.1 0 16 ∧ x.1 9 5 = m.1 0 17
def Rbk (x m : GW) : Prop := SQ (gsub x e_shX_shB_14) (gsub x e_shX_shP_40) (m.1 1) (m.2 2)
def Rmk (x m : GW) : Prop := ∃ n, n ≤ 3 ∧ x.1 0 13 = nI n ∧ m.1 0 39 = nI n ∧
  (1 ≤ n → SQ (gsub x e_shX_shBB_61_14) (gsub x e_shX_shPP_74_40) (fun k => m.1 1 (454 + k)) (fun k => m.2 2 (6 + k))) ∧
  (2 ≤ n → SQ (gsub x e_shX_shBB_83_14) (gsub x e_shX_shPP_96_40) (fun k => m.1 1 (908 + k)) (fun k => m.2 2 (12 + k))) ∧
  (3 ≤ n → SQ (gsub x e_shX_shBB_105_14) (gsub x e_shX_shPP_118_40) (fun k => m.1 1 (1362 + k)) (fun k => m.2 2 (18 + k)))
def Rlv (x m : GW) : Prop := (x.1 0 14 = (0 : Int32) ∧ m.1 0 38 = (0 : Int32)) ∨
  (x.1 0 14 = (1 : Int32) ∧ m.1 0 38 = (1 : Int32) ∧ x.1 126 1 = m.1 18 0 ∧ x.1 126 2 = m.1 18 1 ∧ x.1 126 3 = m.1 18 2 ∧ x.1 126 4 = m.1 18 3 ∧ x.1 126 5 = m.1 18 4 ∧ (x.1 126 5 = (0 : Int32) ∨ x.1 126 5 = (1 : Int32)))
def Rst (x m : GW) : Prop := x.1 0 15 = m.1 0 2 ∧ x.2 0 16 = m.2 0 3 ∧ x.2 0 17 = m.2 0 4
def RR (x m : GW) : Prop := Rst x m ∧ Rtr x m ∧ Rtp x m ∧ Rbk x m ∧ Rmk x m ∧ Rlv x m
def Sm (o1 o2 : Option (Int32 × GW)) : Prop := ∃ r x m, o1 = some (r, x) ∧ o2 = some (r, m) ∧ RR x m
def SmL (o1 o2 : Option (Int64 × GW)) : Prop := ∃ r x m, o1 = some (r, x) ∧ o2 = some (r, m) ∧ RR x m
section
variable {x m : GW}
theorem RR.st (h : RR x m) (v : Int32) : RR (gI x 0 15 v) (gI m 0 2 v) :=
  ⟨⟨rfl, h.1.2.1, h.1.2.2⟩, h.2.1, h.2.2.1, h.2.2.2.1, h.2.2.2.2.1, h.2.2.2.2.2⟩
theorem Sm.fin (h : RR x m) (r v : Int32) : Sm (some (r, gI x 0 15 v)) (some (r, gI m 0 2 v)) := ⟨r, _, _, rfl, rfl, h.st v⟩
theorem SQ.congr {wb wp wb' wp' : GW} {a a' : Nat → Int32} {nm nm' : Nat → Int64} (h : SQ wb wp a nm) (hb : ∀ i k, i < 13 → wb'.1 i k = wb.1 i k) (hb2 : ∀ k, wb'.2 4 k = wb.2 4 k) (hp : ∀ i k, i < 8 → wp'.1 i k = wp.1 i k) (ha : ∀ k, k < 454 → a' k = a k) (hn : ∀ k, k < 6 → nm' k = nm k) : SQ wb' wp' a' nm' := by
  obtain ⟨nc, nr, nk, nl, h1, h2, h3⟩ := h
  have hc := h2.cnt
  refine ⟨nc, nr, nk, nl, ?_, h2.congr (fun k hk => ha k (by omega)), h3.congr (Nat.le_refl _) ⟨hp 0 0 (by omega), hp 0 1 (by omega)⟩ (fun i s h4 h5 _ => hp i s (by omega)) (ha 7 (by omega)) (fun k h4 h5 => ha k (by omega))⟩
  have q := h1.congr hc hb hb2 (fun k hk => ha k (by omega))
  refine ⟨q.1, q.2.1, q.2.2.1, q.2.2.2.1, fun k hk => ?_, q.2.2.2.2.2⟩
  rw [hn k (by omega)]
  exact q.name hk
/-- the slots ahead of the spare one are left as they are -/
theorem Rmk.congr {m' : GW} (h : Rmk x m) (h39 : m'.1 0 39 = m.1 0 39) (ha : ∀ k, 454 ≤ k → k < 1816 → m'.1 1 k = m.1 1 k) (hn : ∀ k, 6 ≤ k → k < 24 → m'.2 2 k = m.2 2 k) : Rmk x m' := by
  obtain ⟨n, h1, h2, h3, h4, h5, h6⟩ := h
  refine ⟨n, h1, h2, h39.trans h3, fun q => (h4 q).congr (fun _ _ _ => rfl) (fun _ => rfl) (fun _ _ _ => rfl) (fun k hk => ha _ (by omega) (by omega)) (fun k hk => hn _ (by omega) (by omega)), fun q => (h5 q).congr (fun _ _ _ => rfl) (fun _ => rfl) (fun _ _ _ => rfl) (fun k hk => ha _ (by omega) (by omega)) (fun k hk => hn _ (by omega) (by omega)), fun q => (h6 q).congr (fun _ _ _ => rfl) (fun _ => rfl) (fun _ _ _ => rfl) (fun k hk => ha _ (by omega) (by omega)) (fun k hk => hn _ (by omega) (by omega))⟩
/-- the bank alone changes, on both sides -/
theorem RR.bank (h : RR x m) {w' : GW} {a' : Nat → Int32} {nc nr nk nl nr' nk' nl' : Nat} (hb : Bq (gsub x e_shX_shB_14) (m.1 1) (m.2 2) nc nr nk nl) (hi : Bi (m.1 1) nc nr nk nl) (hb' : Bq w' a' (m.2 2) nc nr' nk' nl') (hi' : Bi a' nc nr' nk' nl') (hk : nk ≤ nk') (h7 : a' 7 = m.1 1 7) (h86 : ∀ k, 86 ≤ k → a' k = m.1 1 k) : RR (gput x e_shX_shB_14 w') (pA m a') := by
  obtain ⟨h1, h2, h3, h4, h5, h6⟩ := h
  refine ⟨h1, h2, h3, ?_, h5.congr (m' := pA m a') rfl (fun k h8 _ => h86 k (by omega)) (fun _ _ _ => rfl), h6⟩
  obtain ⟨nc0, nr0, nk0, nl0, q1, q2, q3⟩ := h4
  have e1 : nc0 = nc := by
    have e := q2.n0.symm.trans hi.n0
    have := q2.cnt
    have := hi.cnt
    exact (nI_eq (by omega) (by omega)).mp e
  have e2 : nk0 = nk := by
    have e := q2.n2.symm.trans hi.n2
    have := q2.cnt
    have := hi.cnt
    exact (nI_eq (by omega) (by omega)).mp e
  subst e1 e2
  have q4 : Pq (gsub x e_shX_shP_40) a' nk' nc0 := q3.congr hk ⟨rfl, rfl⟩ (fun _ _ _ _ _ => rfl) h7 (fun k h8 _ => h86 k h8)
  exact ⟨nc0, nr', nk', nl', hb', hi', q4⟩
theorem RR.bnk (h : RR x m) : ∃ nc nr nk nl, Bq (gsub x e_shX_shB_14) (m.1 1) (m.2 2) nc nr nk nl ∧ Bi (m.1 1) nc nr nk nl := by
  obtain ⟨nc, nr, nk, nl, q1, q2, q3⟩ := h.2.2.2.1
  exact ⟨nc, nr, nk, nl, q1, q2⟩
end
