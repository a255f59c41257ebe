/-! One step of a life does something to the bank. -/
theorem nI_nz {a : Nat} (ha : a < 2147483648) (h : a ≠ 0) : ¬ nI a = 0 := fun e => h ((nI_eq (b := 0) ha (by omega)).mp e)
theorem nI_nlz {a : Nat} (ha : a < 2147483648) (h : a ≠ 0) : ¬ nI a ≤ 0 := fun e => h (by have := (nI_leI (b := 0) ha (by omega)).mp e; omega)
def gU (m : GW) (c16 c17 : Nat → Int32) (s n : Int32) : GW := (fun i => if i = 16 then c16 else if i = 17 then c17 else if i = 0 then upd (upd (m.1 0) 33 s) 34 n else m.1 i, m.2)
def mZ (m : GW) (a c16 c17 : Nat → Int32) (s n : Int32) : GW := pA (gU m c16 c17 s n) a
section
variable {m : GW} {a c16 c17 : Nat → Int32} {s n : Int32}
theorem Z_33 : (mZ m a c16 c17 s n).1 0 33 = s := by
  show upd (upd (m.1 0) 33 s) 34 n 33 = s
  rw [pk_un (by omega), pk_us]
theorem Z_34 : (mZ m a c16 c17 s n).1 0 34 = n := by
  show upd (upd (m.1 0) 33 s) 34 n 34 = n
  exact pk_us
theorem Z_1 : (mZ m a c16 c17 s n).1 1 = a := rfl
theorem Z_16 : (mZ m a c16 c17 s n).1 16 = c16 := rfl
theorem Z_17 : (mZ m a c16 c17 s n).1 17 = c17 := rfl
theorem gI_Z17 (k : Nat) (v : Int32) : gI (mZ m a c16 c17 s n) 17 k v = mZ m a c16 (upd c17 k v) s n := by
  refine Prod.ext (funext fun i => funext fun q => ?_) rfl
  by_cases h1 : i = 17
  · subst h1
    show (if 17 = 17 ∧ q = k then v else c17 q) = (if q = k then v else c17 q)
    by_cases e : q = k
    · rw [if_pos ⟨rfl, e⟩, if_pos e]
    · rw [if_neg (fun z => e z.2), if_neg e]
  show (if i = 17 ∧ q = k then v else (mZ m a c16 c17 s n).1 i q) = (mZ m a c16 (upd c17 k v) s n).1 i q
  rw [if_neg (fun z => h1 z.1)]
  show (if i = 1 then a else if i = 16 then c16 else if i = 17 then c17 else if i = 0 then upd (upd (m.1 0) 33 s) 34 n else m.1 i) q = (if i = 1 then a else if i = 16 then c16 else if i = 17 then (upd c17 k v) else if i = 0 then upd (upd (m.1 0) 33 s) 34 n else m.1 i) q
  simp only [h1, if_false]
theorem gI_Z16 (k : Nat) (v : Int32) : gI (mZ m a c16 c17 s n) 16 k v = mZ m a (upd c16 k v) c17 s n := by
  refine Prod.ext (funext fun i => funext fun q => ?_) rfl
  by_cases h1 : i = 16
  · subst h1
    show (if 16 = 16 ∧ q = k then v else c16 q) = (if q = k then v else c16 q)
    by_cases e : q = k
    · rw [if_pos ⟨rfl, e⟩, if_pos e]
    · rw [if_neg (fun z => e z.2), if_neg e]
  show (if i = 16 ∧ q = k then v else (mZ m a c16 c17 s n).1 i q) = (mZ m a (upd c16 k v) c17 s n).1 i q
  rw [if_neg (fun z => h1 z.1)]
  show (if i = 1 then a else if i = 16 then c16 else if i = 17 then c17 else if i = 0 then upd (upd (m.1 0) 33 s) 34 n else m.1 i) q = (if i = 1 then a else if i = 16 then (upd c16 k v) else if i = 17 then c17 else if i = 0 then upd (upd (m.1 0) 33 s) 34 n else m.1 i) q
  simp only [h1, if_false]
theorem gI_Z0 {k : Nat} {v s' n' : Int32} (h : upd (upd (upd (m.1 0) 33 s) 34 n) k v = upd (upd (m.1 0) 33 s') 34 n') : gI (mZ m a c16 c17 s n) 0 k v = mZ m a c16 c17 s' n' := by
  refine Prod.ext (funext fun i => funext fun q => ?_) rfl
  by_cases h1 : i = 0
  · subst h1
    have h2 := congrFun h q
    show (if 0 = 0 ∧ q = k then v else upd (upd (m.1 0) 33 s) 34 n q) = upd (upd (m.1 0) 33 s') 34 n' q
    rw [← h2]
    by_cases e : q = k
    · rw [if_pos ⟨rfl, e⟩, e, pk_us]
    · rw [if_neg (fun z => e z.2), pk_un e]
  show (if i = 0 ∧ q = k then v else (mZ m a c16 c17 s n).1 i q) = (mZ m a c16 c17 s' n').1 i q
  rw [if_neg (fun z => h1 z.1)]
  show (if i = 1 then a else if i = 16 then c16 else if i = 17 then c17 else if i = 0 then upd (upd (m.1 0) 33 s) 34 n else m.1 i) q = (if i = 1 then a else if i = 16 then c16 else if i = 17 then c17 else if i = 0 then upd (upd (m.1 0) 33 s') 34 n' else m.1 i) q
  simp only [h1, if_false]
theorem gI_Z33 (v : Int32) : gI (mZ m a c16 c17 s n) 0 33 v = mZ m a c16 c17 v n := gI_Z0 (by
  funext q
  by_cases e : q = 34
  · rw [e, pk_un (by omega), pk_us, pk_us]
  · rw [pk_un e (f := upd (m.1 0) 33 v)]
    by_cases e2 : q = 33
    · rw [e2, pk_us, pk_us]
    · rw [pk_un e2, pk_un e, pk_un e2, pk_un e2])
theorem gI_Z34 (v : Int32) : gI (mZ m a c16 c17 s n) 0 34 v = mZ m a c16 c17 s v := gI_Z0 (by
  funext q
  by_cases e : q = 34
  · rw [e, pk_us, pk_us]
  · rw [pk_un e, pk_un e, pk_un e])
theorem pA_Z (a' : Nat → Int32) : pA (mZ m a c16 c17 s n) a' = mZ m a' c16 c17 s n := pA_pA _ _ _
end
/-- the life's world of the class, beside the reference's row and counts -/
def LQ (p : GW) (A : Nat → Int32) (nm : Nat → Int64) (nc nr nk : Nat) (y0 p0 : Int32) (w : GW) (a c17 : Nat → Int32) (S N : Nat) : Prop :=
  (∃ nl, Bq (gsub w e_shL_shB_3) a nm nc nr nk nl ∧ Bi a nc nr nk nl) ∧ (∀ i, i < 8 → ∀ k, w.1 (16 + i) k = p.1 i k) ∧ (∀ k, 86 ≤ k → a k = A k) ∧ a 7 = A 7 ∧
  w.1 0 0 = nI N ∧ S ≤ 65535 ∧ w.1 0 6 = nI S ∧ w.1 0 1 = c17 0 ∧ w.1 0 4 = c17 3 ∧ w.1 0 5 = 0 ∧ c17 4 = 0 ∧ a 6 = y0 + c17 1 ∧ sTot a nk 5 = p0 + c17 2
def SF (w w' : GW) : Prop := w'.1 1 = w.1 1 ∧ w'.1 2 = w.1 2 ∧ w'.1 0 7 = w.1 0 7
def LD (p : GW) (A : Nat → Int32) (nm : Nat → Int64) (nc nr nk : Nat) (y0 p0 : Int32) (m w : GW) (c16 c17 : Nat → Int32) (n : Int32) (N : Nat) (o1 o2 : Option (Int32 × GW)) : Prop :=
  ∃ ok w' a' c17' S', (ok = (0 : Int32) ∨ ok = (1 : Int32)) ∧ o1 = some (ok, w') ∧ o2 = some (ok, mZ m a' c16 c17' (nI S') n) ∧ LQ p A nm nc nr nk y0 p0 w' a' c17' S' N ∧ SF w w' ∧ c17' 0 = c17 0
section
variable {p m w : GW} {A : Nat → Int32} {nm : Nat → Int64} {nc nr nk : Nat} {y0 p0 : Int32} {a c16 c17 : Nat → Int32} {S N : Nat} {n : Int32}
theorem gfLB {i : Nat} (hi : i < 8) : gfind e_shL_shB_3 (16 + i) = none := (by decide : ∀ j : Fin 8, gfind e_shL_shB_3 (16 + j.val) = none) ⟨i, hi⟩
theorem LQ.put (h : LQ p A nm nc nr nk y0 p0 w a c17 S N) {b' : GW} {a' c17' : Nat → Int32} {nl' : Nat} (hb : Bq b' a' nm nc nr nk nl') (hi : Bi a' nc nr nk nl') (h86 : ∀ k, 86 ≤ k → a' k = a k) (h7 : a' 7 = a 7) (c0 : c17' 0 = c17 0) (c3 : c17' 3 = c17 3) (c4 : c17' 4 = c17 4) (y : a' 6 = y0 + c17' 1) (t : sTot a' nk 5 = p0 + c17' 2) : LQ p A nm nc nr nk y0 p0 (gput w e_shL_shB_3 b') a' c17' S N := by
  obtain ⟨⟨nl, q1, q2⟩, q3, q4, q5, q6, q7, q8, q9, q10, q11, q12, q13, q14⟩ := h
  refine ⟨⟨nl', hb, hi⟩, fun i hi k => ?_, fun k hk => (h86 k hk).trans (q4 k hk), h7.trans q5, q6, q7, q8, q9.trans c0.symm, q10.trans c3.symm, q11, c4.trans q12, y, t⟩
  show (match gfind e_shL_shB_3 (16 + i) with | some j => b'.1 j k | none => w.1 (16 + i) k) = _
  rw [gfLB hi]
  exact q3 i hi k
theorem LQ.same (h : LQ p A nm nc nr nk y0 p0 w a c17 S N) {b' : GW} {a' : Nat → Int32} {nl' : Nat} (hb : Bq b' a' nm nc nr nk nl') (hi : Bi a' nc nr nk nl') (h86 : ∀ k, 86 ≤ k → a' k = a k) (h7 : a' 7 = a 7) (h6 : a' 6 = a 6) (h5 : ∀ c, c < nk → a' (27 + 7 * c + 5) = a (27 + 7 * c + 5)) : LQ p A nm nc nr nk y0 p0 (gput w e_shL_shB_3 b') a' c17 S N :=
  h.put hb hi h86 h7 rfl rfl rfl (h6.trans h.2.2.2.2.2.2.2.2.2.2.2.1) ((sTot_congr h5).trans h.2.2.2.2.2.2.2.2.2.2.2.2)
theorem LQ.seed (h : LQ p A nm nc nr nk y0 p0 w a c17 S N) {S' : Nat} (hs : S' ≤ 65535) : LQ p A nm nc nr nk y0 p0 (gI w 0 6 (nI S')) a c17 S' N := by
  obtain ⟨q1, q3, q4, q5, q6, q7, q8, q9, q10, q11, q12, q13, q14⟩ := h
  refine ⟨q1, fun i hi k => ?_, q4, q5, q6, hs, rfl, q9, q10, q11, q12, q13, q14⟩
  rw [gI_ne _ _ _ _ (by omega)]
  exact q3 i hi k
theorem LQ.step (h : LQ p A nm nc nr nk y0 p0 w a c17 S N) (N' : Nat) : LQ p A nm nc nr nk y0 p0 (gI w 0 0 (nI N')) a c17 S N' := by
  obtain ⟨q1, q3, q4, q5, q6, q7, q8, q9, q10, q11, q12, q13, q14⟩ := h
  refine ⟨q1, fun i hi k => ?_, q4, q5, rfl, q7, q8, q9, q10, q11, q12, q13, q14⟩
  rw [gI_ne _ _ _ _ (by omega)]
  exact q3 i hi k
theorem LQ.came (h : LQ p A nm nc nr nk y0 p0 w a c17 S N) (r : Int32) : LQ p A nm nc nr nk y0 p0 (gI w 0 4 (w.1 0 4 + r)) a (upd c17 3 (c17 3 + r)) S N := by
  obtain ⟨q1, q3, q4, q5, q6, q7, q8, q9, q10, q11, q12, q13, q14⟩ := h
  refine ⟨q1, fun i hi k => ?_, q4, q5, q6, q7, q8, ?_, ?_, q11, ?_, ?_, ?_⟩
  · rw [gI_ne _ _ _ _ (by omega)]
    exact q3 i hi k
  · rw [pk_un (by omega)]; exact q9
  · rw [pk_us, ← q10]; rfl
  · rw [pk_un (by omega)]; exact q12
  · rw [pk_un (by omega)]; exact q13
  · rw [pk_un (by omega)]; exact q14
theorem SF.rfl' : SF w w := ⟨rfl, rfl, rfl⟩
theorem d_years (h : LQ p A nm nc nr nk y0 p0 w a c17 S N) (hm : m.2 2 = nm) {y : Nat} (hy : y ≤ 99) : LD p A nm nc nr nk y0 p0 m w c16 c17 n N ((F_X0_passYears (nI y) (gsub w e_shL_shB_3)).bind fun q3 => (if q3.1 = (-1 : Int32) then (some ((0 : Int32), (gput w e_shL_shB_3 q3.2))) else (some ((1 : Int32), (gput w e_shL_shB_3 q3.2))))) (F_X11_yearsBy (nI y) (mZ m a c16 c17 (nI S) n)) := by
  obtain ⟨nl, hb, hi⟩ := h.1
  have hn := hi.cnt
  have h6 := h.2.2.2.2.2.2.2.2.2.2.2.1
  have h5 := h.2.2.2.2.2.2.2.2.2.2.2.2
  unfold F_X0_passYears F_X11_yearsBy
  rw [Z_1, show (gsub w e_shL_shB_3).1 0 2 = a 6 from hb.year]
  by_cases hl : a 6 + nI y ≤ (9999 : Int32)
  · obtain ⟨w', e1, h1⟩ := x_years hb hi (y := y) (by omega)
    have e2 := m_years (m := gU m c16 c17 (nI S) n) hi (y := y) (by omega)
    obtain ⟨r, hr, er⟩ := aYn_small hi y
    have hr2 : r ≤ 300 * 99 := by
      have h4 : 50 * nk * y ≤ 300 * 99 := Nat.mul_le_mul (by omega) hy
      omega
    rw [if_pos hl, if_pos hl, e1, show F_X11_yearsGo (nI y) (mZ m a c16 c17 (nI S) n) = _ from e2, Option.bind_some, Option.bind_some]
    dsimp only
    rw [if_neg (by rw [er]; exact nI_nm (by omega))]
    refine ⟨1, gput w e_shL_shB_3 w', (aYn nr nk 0 y (0, a)).2, upd (upd c17 2 (c17 2 + (aYn nr nk 0 y (0, a)).1)) 1 (c17 1 + nI y), S, Or.inr rfl, rfl, ?_, h.put h1 (Bi.yn (t := (0, a)) hi 0 y) (fun k hk => aYn_keep (by omega) (by omega) 0 y _) (aYn_keep (by omega) (by omega) 0 y _) ?_ ?_ ?_ ?_ ?_, SF.rfl', ?_⟩
    · show some ((1 : Int32), gI (gI (mZ m (aYn nr nk 0 y (0, a)).2 c16 c17 (nI S) n) 17 2 _) 17 1 _) = _
      rw [gI_Z17, gI_Z17, Z_17]
      show some ((1 : Int32), mZ m (aYn nr nk 0 y (0, a)).2 c16 (upd (upd c17 2 (c17 2 + (aYn nr nk 0 y (0, a)).1)) 1 (upd c17 2 (c17 2 + (aYn nr nk 0 y (0, a)).1) 1 + nI y)) (nI S) n) = _
      rw [pk_un (show 1 ≠ 2 by omega)]
    · rw [pk_un (by omega), pk_un (by omega)]
    · rw [pk_un (by omega), pk_un (by omega)]
    · rw [pk_un (by omega), pk_un (by omega)]
    · rw [pk_us, aYn_year (by omega)]
      show a 6 + nI y = _
      rw [h6, Int32.add_assoc]
    · rw [pk_un (by omega), pk_us, aYn_tot (by omega), h5, Int32.add_assoc]
    · rw [pk_un (by omega), pk_un (by omega)]
  · rw [if_neg hl, if_neg hl, Option.bind_some, gput_self, if_pos rfl]
    exact ⟨0, _, a, c17, S, Or.inl rfl, rfl, rfl, h, SF.rfl', rfl⟩
theorem LQ.ok' (h : LQ p A nm nc nr nk y0 p0 w a c17 S N) {b' : GW} {a' : Nat → Int32} {nl' : Nat} {r : Int32} (hr : ¬ r = (-1 : Int32)) (hb : Bq b' a' nm nc nr nk nl') (hi : Bi a' nc nr nk nl') (h86 : ∀ k, 86 ≤ k → a' k = a k) (h7 : a' 7 = a 7) (h6 : a' 6 = a 6) (h5 : ∀ c, c < nk → a' (27 + 7 * c + 5) = a (27 + 7 * c + 5)) : LD p A nm nc nr nk y0 p0 m w c16 c17 n N ((some (r, b')).bind fun q3 => (if q3.1 = (-1 : Int32) then (some ((0 : Int32), (gput w e_shL_shB_3 q3.2))) else (some ((1 : Int32), (gput w e_shL_shB_3 q3.2))))) (some ((1 : Int32), mZ m a' c16 c17 (nI S) n)) :=
  ⟨1, gput w e_shL_shB_3 b', a', c17, S, Or.inr rfl, if_neg hr, rfl, h.same hb hi h86 h7 h6 h5, SF.rfl', rfl⟩
theorem LD.no (h : LQ p A nm nc nr nk y0 p0 w a c17 S N) : LD p A nm nc nr nk y0 p0 m w c16 c17 n N ((some ((-1 : Int32), gsub w e_shL_shB_3)).bind fun q3 => (if q3.1 = (-1 : Int32) then (some ((0 : Int32), (gput w e_shL_shB_3 q3.2))) else (some ((1 : Int32), (gput w e_shL_shB_3 q3.2))))) (some ((0 : Int32), mZ m a c16 c17 (nI S) n)) := by
  rw [Option.bind_some, if_pos rfl, gput_self]
  exact ⟨0, w, a, c17, S, Or.inl rfl, rfl, rfl, h, SF.rfl', rfl⟩
theorem d_moves (h : LQ p A nm nc nr nk y0 p0 w a c17 S N) {c s : Nat} (hc : c < nk) (hs : s < nc) : LD p A nm nc nr nk y0 p0 m w c16 c17 n N ((F_X0_seatElsewhere (nI c) (nI s) (gsub w e_shL_shB_3)).bind fun q3 => (if q3.1 = (-1 : Int32) then (some ((0 : Int32), (gput w e_shL_shB_3 q3.2))) else (some ((1 : Int32), (gput w e_shL_shB_3 q3.2))))) (F_X11_moves (nI c) (nI s) (mZ m a c16 c17 (nI S) n)) := by
  obtain ⟨nl, hb, hi⟩ := h.1
  have hn := hi.cnt
  rw [show F_X11_moves (nI c) (nI s) (mZ m a c16 c17 (nI S) n) = _ from m_moves (m := gU m c16 c17 (nI S) n) hi (s := s) hc]
  by_cases hf : fi (fun k => a (27 + 7 * k) = nI s) 0 nk = (-1 : Int32)
  · obtain ⟨w', e1, h1⟩ := x_seatElse hb hi hc hs hf
    have hi' := hi.sit hc hs (fun k hk _ => sit_free hi hf k hk)
    obtain ⟨g, hg, eg⟩ := hi'.grey hc
    rw [e1, if_pos hf]
    exact h.ok' (by rw [eg]; exact nI_nm (by omega)) h1 hi' (fun k hk => aSit_keep _ (by omega) (by omega) _) (aSit_keep _ (by omega) (by omega) _) (by unfold aSit; rw [pk_un (by omega), pk_un (by omega), pk_un (by omega)]) (fun c' hc' => by unfold aSit; rw [pk_un (by omega), pk_un (by omega), pk_un (by omega)])
  · rw [x_seatElse_no hb hi hc hs hf, if_neg hf]
    exact LD.no h
theorem d_swaps (h : LQ p A nm nc nr nk y0 p0 w a c17 S N) {c o : Nat} (hc : c < nk) (ho : o < nk) : LD p A nm nc nr nk y0 p0 m w c16 c17 n N ((F_X0_exchange (nI c) (nI o) (gsub w e_shL_shB_3)).bind fun q3 => (if q3.1 = (-1 : Int32) then (some ((0 : Int32), (gput w e_shL_shB_3 q3.2))) else (some ((1 : Int32), (gput w e_shL_shB_3 q3.2))))) (F_X11_swaps (nI c) (nI o) (mZ m a c16 c17 (nI S) n)) := by
  obtain ⟨nl, hb, hi⟩ := h.1
  have hn := hi.cnt
  by_cases e : c = o
  · subst e
    have e1 : F_X0_exchange (nI c) (nI c) (gsub w e_shL_shB_3) = some ((-1 : Int32), gsub w e_shL_shB_3) := by
      unfold F_X0_exchange
      rw [x_hasClerk hb hi, if_pos (gin_nI hc (by omega)), Option.bind_some, if_neg one_ne, Option.bind_some, if_neg one_ne, if_pos rfl]
    have e2 : F_X11_swaps (nI c) (nI c) (mZ m a c16 c17 (nI S) n) = some ((0 : Int32), mZ m a c16 c17 (nI S) n) := by
      unfold F_X11_swaps
      rw [m_clerk0 (by omega), Option.bind_some, if_pos rfl]
    rw [e1, e2]
    exact LD.no h
  · obtain ⟨w', e1, h1⟩ := x_exchange hb hi hc ho e
    have hi' := hi.sw hc ho e
    obtain ⟨g, hg, eg⟩ := hi'.grey hc
    obtain ⟨g2, hg2, eg2⟩ := hi'.grey ho
    rw [e1, show F_X11_swaps (nI c) (nI o) (mZ m a c16 c17 (nI S) n) = _ from m_swaps (m := gU m c16 c17 (nI S) n) hi hc ho e]
    exact h.ok' (by rw [eg, eg2, nI_add]; exact nI_nm (by omega)) h1 hi' (fun k hk => aSw_keep _ (by omega) (by omega) (by omega)) (aSw_keep _ (by omega) (by omega) (by omega)) (by unfold aSw aSit; rw [pk_un (by omega), pk_un (by omega), pk_un (by omega), pk_un (by omega), pk_un (by omega), pk_un (by omega)]) (fun c' hc' => by unfold aSw aSit; rw [pk_un (by omega), pk_un (by omega), pk_un (by omega), pk_un (by omega), pk_un (by omega), pk_un (by omega)])
theorem d_fans (h : LQ p A nm nc nr nk y0 p0 w a c17 S N) {c y : Nat} (hc : c < nk) (hy : y ≤ 50) : LD p A nm nc nr nk y0 p0 m w c16 c17 n N ((F_X0_addSham (nI c) (nI y) (gsub w e_shL_shB_3)).bind fun q3 => (if q3.1 = (-1 : Int32) then (some ((0 : Int32), (gput w e_shL_shB_3 q3.2))) else (some ((1 : Int32), (gput w e_shL_shB_3 q3.2))))) (F_X11_fans (nI c) (nI y) (mZ m a c16 c17 (nI S) n)) := by
  obtain ⟨nl, hb, hi⟩ := h.1
  have hn := hi.cnt
  rw [show F_X11_fans (nI c) (nI y) (mZ m a c16 c17 (nI S) n) = _ from m_fans (m := gU m c16 c17 (nI S) n) (a := a) (c := c) (by omega) (nI y)]
  by_cases hs : a (27 + 7 * c + 3) = (99 : Int32)
  · rw [x_addSham_no hb hi hc _ hs, if_pos hs]
    exact LD.no h
  · obtain ⟨w', e1, h1⟩ := x_addSham hb hi hc (nI y) hs
    have hi' := hi.fan hc (x := y) (by omega)
    obtain ⟨g, hg, eg⟩ := hi'.sham hc
    rw [e1, if_neg hs]
    exact h.ok' (by rw [eg]; exact nI_nm (by omega)) h1 hi' (fun k hk => pk_un (by omega)) (pk_un (by omega)) (pk_un (by omega)) (fun c' hc' => pk_un (by omega))
theorem d_wipe (h : LQ p A nm nc nr nk y0 p0 w a c17 S N) {c : Nat} (hc : c < nk) : LD p A nm nc nr nk y0 p0 m w c16 c17 n N ((F_X0_wipe (nI c) (gsub w e_shL_shB_3)).bind fun q3 => (if q3.1 = (-1 : Int32) then (some ((0 : Int32), (gput w e_shL_shB_3 q3.2))) else (some ((1 : Int32), (gput w e_shL_shB_3 q3.2))))) ((F_X11_cleans (nI c) (1 : Int32) (mZ m a c16 c17 (nI S) n)).bind fun q7 => (if q7.1 ≤ 0 then (some ((0 : Int32), q7.2)) else (some ((1 : Int32), q7.2)))) := by
  obtain ⟨nl, hb, hi⟩ := h.1
  have hn := hi.cnt
  obtain ⟨w', e1, h1⟩ := x_wipe hb hi hc
  obtain ⟨g, hg, eg⟩ := hi.sham hc
  obtain ⟨g2, hg2, eg2⟩ := hi.grey hc
  have e2 : ((F_X11_cleans (nI c) (1 : Int32) (mZ m a c16 c17 (nI S) n)).bind fun q7 => (if q7.1 ≤ 0 then (some ((0 : Int32), q7.2)) else (some ((1 : Int32), q7.2)))) = (if nI (g + g2) ≤ 0 then some ((0 : Int32), mZ m (aDst a c) c16 c17 (nI S) n) else some ((1 : Int32), mZ m (aDst a c) c16 c17 (nI S) n)) := by
    rw [show F_X11_cleans (nI c) (1 : Int32) (mZ m a c16 c17 (nI S) n) = _ from m_cleans1 (m := gU m c16 c17 (nI S) n) (a := a) (c := c) (by omega), eg, eg2, nI_add]
    rfl
  rw [e1, e2, eg, eg2, nI_add]
  by_cases hz : g + g2 = 0
  · rw [if_pos (by rw [hz]; rfl), if_pos (by rw [hz]; decide)]
    have e3 : aDst a c = a := by
      funext k
      unfold aDst
      by_cases k1 : k = 27 + 7 * c + 2
      · rw [k1, pk_us, eg2, show g2 = 0 by omega]; rfl
      · by_cases k2 : k = 27 + 7 * c + 3
        · rw [k2, pk_un (by omega), pk_us, eg, show g = 0 by omega]; rfl
        · rw [pk_un k1, pk_un k2]
    rw [e3]
    exact LD.no h
  · rw [if_neg (nI_nz (by omega) hz), if_neg (nI_nlz (by omega) hz)]
    exact h.ok' (nI_nm (by omega)) h1 (hi.dst hc) (fun k hk => by unfold aDst; rw [pk_un (by omega), pk_un (by omega)]) (by unfold aDst; rw [pk_un (by omega), pk_un (by omega)]) (by unfold aDst; rw [pk_un (by omega), pk_un (by omega)]) (fun c' hc' => by unfold aDst; rw [pk_un (by omega), pk_un (by omega)])
theorem d_look (h : LQ p A nm nc nr nk y0 p0 w a c17 S N) {c : Nat} (hc : c < nk) : LD p A nm nc nr nk y0 p0 m w c16 c17 n N ((F_X0_exposeSham (nI c) (gsub w e_shL_shB_3)).bind fun q3 => (if q3.1 = (-1 : Int32) then (some ((0 : Int32), (gput w e_shL_shB_3 q3.2))) else (some ((1 : Int32), (gput w e_shL_shB_3 q3.2))))) ((F_X11_cleans (nI c) (0 : Int32) (mZ m a c16 c17 (nI S) n)).bind fun q7 => (if q7.1 ≤ 0 then (some ((0 : Int32), q7.2)) else (some ((1 : Int32), q7.2)))) := by
  obtain ⟨nl, hb, hi⟩ := h.1
  have hn := hi.cnt
  obtain ⟨w', e1, h1⟩ := x_expose hb hi hc
  obtain ⟨g, hg, eg⟩ := hi.sham hc
  have e2 : ((F_X11_cleans (nI c) (0 : Int32) (mZ m a c16 c17 (nI S) n)).bind fun q7 => (if q7.1 ≤ 0 then (some ((0 : Int32), q7.2)) else (some ((1 : Int32), q7.2)))) = (if a (27 + 7 * c + 3) ≤ 0 then some ((0 : Int32), mZ m (aCln a c) c16 c17 (nI S) n) else some ((1 : Int32), mZ m (aCln a c) c16 c17 (nI S) n)) := by
    rw [show F_X11_cleans (nI c) (0 : Int32) (mZ m a c16 c17 (nI S) n) = _ from m_cleans0 (m := gU m c16 c17 (nI S) n) (a := a) (c := c) (by omega)]
    rfl
  rw [e1, e2]
  by_cases hz : a (27 + 7 * c + 3) = 0
  · rw [if_pos hz, hz, if_pos (by decide)]
    have e3 : aCln a c = a := by
      funext k
      unfold aCln
      by_cases k2 : k = 27 + 7 * c + 3
      · rw [k2, pk_us, hz]
      · rw [pk_un k2]
    rw [e3]
    exact LD.no h
  · rw [if_neg hz, if_neg (fun e => hz (by rw [eg] at e ⊢; have := (nI_leI (b := 0) (by omega) (by omega)).mp e; rw [show g = 0 by omega]; rfl))]
    exact h.ok' (by rw [eg]; exact nI_nm (by omega)) h1 (hi.cln hc) (fun k hk => pk_un (by omega)) (pk_un (by omega)) (pk_un (by omega)) (fun c' hc' => pk_un (by omega))
theorem d_run (h : LQ p A nm nc nr nk y0 p0 w a c17 S N) : LD p A nm nc nr nk y0 p0 m w c16 c17 n N (F_X3_payClients w) (F_X11_runsBy (mZ m a c16 c17 (nI S) n)) := by
  obtain ⟨nl, hb, hi⟩ := h.1
  have hn := hi.cnt
  have h8 := p256 hn.2.2.2
  have hs := sCo_small a nl 0
  unfold F_X3_payClients F_X11_runsBy
  rw [show F_X11_coming (mZ m a c16 c17 (nI S) n) (0 : Int32) = _ from m_coming (m := mZ m a c16 c17 (nI S) n) hi (wo := 0) (Nat.two_pow_pos nl), Option.bind_some, Z_1, show F_X11_pays (nI (sCo a nl 0)) (mZ m a c16 c17 (nI S) n) = _ from m_pays (m := gU m c16 c17 (nI S) n) hi hs, Option.bind_some, Z_17]
  by_cases hS : sCo a nl 0 = 0
  · rw [x_payComing_no hb hi hS, hS, if_pos nI_0, Option.bind_some, if_pos rfl, gput_self, sPay_0]
    show LD p A nm nc nr nk y0 p0 m w c16 c17 n N _ (some ((0 : Int32), gI (mZ m a c16 c17 (nI S) n) 17 3 (c17 3 + 0)))
    rw [gI_Z17]
    have e : upd c17 3 (c17 3 + 0) = c17 := by
      funext k
      by_cases k1 : k = 3
      · rw [k1, pk_us, Int32.add_zero]
      · rw [pk_un k1]
    rw [e]
    exact ⟨0, w, a, c17, S, Or.inl rfl, rfl, rfl, h, SF.rfl', rfl⟩
  · obtain ⟨w', e1, h1, hi1⟩ := x_payComing hb hi hS
    obtain ⟨r, hr, er⟩ := sPay_small hi (sCo a nl 0)
    rw [e1, if_neg (nI_nz (by omega) hS), Option.bind_some]
    dsimp only
    rw [if_neg (by rw [er]; exact nI_nm (by omega))]
    have h2 := (h.same (w := w) h1 hi1 (fun k hk => sPay_keep hi _ (by omega)) (sPay_keep hi _ (by omega)) (sPay_keep hi _ (by omega)) (fun c hc => sPay_keep hi _ (by omega))).came (sPay (sCo a nl 0) nl a).2.1
    refine ⟨1, _, _, _, S, Or.inr rfl, rfl, ?_, h2, ⟨rfl, rfl, rfl⟩, ?_⟩
    · show some ((1 : Int32), gI (mZ m (sPay (sCo a nl 0) nl a).2.2 c16 c17 (nI S) n) 17 3 _) = _
      rw [gI_Z17]
    · rw [pk_un (by omega)]
def sN (S : Nat) : Nat := S * 3253 + 11471 - (S * 3253 + 11471) / 65536 * 65536
def sD (S k : Nat) : Nat := sN S / 8 - sN S / 8 / k * k
theorem sN_le (S : Nat) : sN S ≤ 65535 := by unfold sN; omega
theorem sD_lt (S : Nat) {k : Nat} (hk : 0 < k) : sD S k < k := by
  unfold sD
  have h1 := Nat.div_add_mod (sN S / 8) k
  have h2 := Nat.mod_lt (sN S / 8) hk
  rw [Nat.mul_comm] at h1
  omega
theorem seed_eq {S : Nat} (hS : S ≤ 65535) : ((nI S * (3253 : Int32)) + (11471 : Int32)) - ((nI S * (3253 : Int32)) + (11471 : Int32)) / (65536 : Int32) * (65536 : Int32) = nI (sN S) := by
  rw [nq_mulL, nq_addL, show nI (S * 3253 + 11471) / (65536 : Int32) = nI ((S * 3253 + 11471) / 65536) from pk_div (a := S * 3253 + 11471) (d := 65536) (by omega) (by omega) (by omega), nq_mulL, nI_sub (by show (S * 3253 + 11471) / 65536 * 65536 ≤ S * 3253 + 11471; omega)]
  rfl
theorem draw_eq {S k : Nat} (hk0 : 0 < k) (hk : k < 1000) : (nI (sN S) / (8 : Int32)) - (nI (sN S) / (8 : Int32)) / nI k * nI k = nI (sD S k) := by
  have h1 := sN_le S
  rw [show nI (sN S) / (8 : Int32) = nI (sN S / 8) from pk_div (a := sN S) (d := 8) (by omega) (by omega) (by omega), pk_div (a := sN S / 8) (d := k) (by omega) hk0 (by omega), nI_mul, nI_sub (Nat.div_mul_le_self _ _)]
  rfl
theorem x_draw (h : w.1 0 6 = nI S) (hS : S ≤ 65535) {k : Nat} (hk0 : 0 < k) (hk : k < 1000) : F_X3_drawBy (nI k) w = some (nI (sD S k), gI w 0 6 (nI (sN S))) := by
  unfold F_X3_drawBy
  rw [if_neg (nI_nlz (by omega) (by omega)), if_neg (nI_nz (by omega) (by omega)), h, seed_eq hS, draw_eq hk0 hk]
theorem m_draw (hS : S ≤ 65535) {k : Nat} (hk0 : 0 < k) (hk : k < 1000) : F_X11_draw (nI k) (mZ m a c16 c17 (nI S) n) = some (nI (sD S k), mZ m a c16 c17 (nI (sN S)) n) := by
  unfold F_X11_draw
  rw [if_neg (nI_nz (by omega) (by omega)), Z_33, seed_eq hS, draw_eq hk0 hk, gI_Z33]
theorem d_any (h : LQ p A nm nc nr nk y0 p0 w a c17 S N) (hm : m.2 2 = nm) : LD p A nm nc nr nk y0 p0 m w c16 c17 n N (F_X3_dustOrWait w) (F_X11_doesAny (mZ m a c16 c17 (nI S) n)) := by
  obtain ⟨nl, hb, hi⟩ := h.1
  have hn := hi.cnt
  have e3 : w.1 3 5 = nI nk := hb.n2
  have e0 : w.1 3 0 = a 4 := hb.odds
  have hS := h.2.2.2.2.2.1
  unfold F_X3_dustOrWait F_X11_doesAny
  rw [e3, Z_1, hi.n2]
  by_cases h0 : nk = 0
  · subst h0
    rw [if_pos nI_0, if_pos nI_0]
    exact ⟨0, w, a, c17, S, Or.inl rfl, rfl, rfl, h, SF.rfl', rfl⟩
  · have hs1 := sN_le S
    have hd := sD_lt S (k := nk) (by omega)
    have hd2 := sD_lt (sN S) (k := 16) (by omega)
    have h2 := (h.seed hs1).seed (sN_le (sN S))
    rw [if_neg (nI_nz (by omega) h0), if_neg (nI_nz (by omega) h0), x_draw h.2.2.2.2.2.2.1 hS (by omega) (by omega), Option.bind_some, m_draw hS (by omega) (by omega), Option.bind_some]
    dsimp only
    rw [show F_X3_drawBy (16 : Int32) (gI w 0 6 (nI (sN S))) = _ from x_draw (w := gI w 0 6 (nI (sN S))) (S := sN S) rfl hs1 (k := 16) (by omega) (by omega), Option.bind_some, show F_X11_draw (16 : Int32) (mZ m a c16 c17 (nI (sN S)) n) = _ from m_draw hs1 (k := 16) (by omega) (by omega), Option.bind_some]
    dsimp only
    rw [Z_1, show (gI (gI w 0 6 (nI (sN S))) 0 6 (nI (sN (sN S)))).1 3 0 = a 4 from e0]
    by_cases hl : a 4 ≤ nI (sD (sN S) 16)
    · rw [if_pos hl, if_pos hl]
      obtain ⟨ok, w', a', c', S', g1, g2, g3, g4, g5, g6⟩ := d_years (m := m) (c16 := c16) (n := n) h2 hm (y := 1) (by omega)
      refine ⟨ok, w', a', c', S', g1, g2, ?_, g4, g5, g6⟩
      rw [show F_X11_yearsBy (1 : Int32) (mZ m a c16 c17 (nI (sN (sN S))) n) = _ from g3, Option.bind_some, if_pos g1]
    · rw [if_neg hl, if_neg hl]
      obtain ⟨ok, w', a', c', S', g1, g2, g3, g4, g5, g6⟩ := d_wipe (m := m) (c16 := c16) (n := n) h2 (c := sD S nk) hd
      exact ⟨ok, w', a', c', S', g1, g2, g3, g4, g5, g6⟩
end
