/-! A whole life, on both sides. -/
def FN (p : GW) (A : Nat → Int32) (nm : Nat → Int64) (nc nr nk : Nat) (w : GW) (a c17 : Nat → Int32) (N : Nat) : Prop :=
  (∃ nl, Bq (gsub w e_shL_shB_3) a nm nc nr nk nl ∧ Bi a nc nr nk nl) ∧ (∀ i, i < 8 → ∀ k, w.1 (16 + i) k = p.1 i k) ∧ (∀ k, 86 ≤ k → a k = A k) ∧ a 7 = A 7 ∧
  w.1 0 0 = nI N ∧ N ≤ 300 ∧ w.1 0 1 = c17 0 ∧ w.1 0 2 = c17 1 ∧ w.1 0 3 = c17 2 ∧ w.1 0 4 = c17 3 ∧ w.1 0 5 = c17 4 ∧ (c17 4 = 0 ∨ c17 4 = 1)
section
variable {p m w : GW} {A : Nat → Int32} {nm : Nat → Int64} {nc nr nk M : Nat} {y0 p0 : Int32} {a c16 c17 : Nat → Int32} {S N : Nat} {n : Int32}
theorem add_back (x y : Int32) : x + y - x = y := by rw [Int32.add_comm, Int32.add_sub_cancel]
theorem x_fin (h : LQ p A nm nc nr nk y0 p0 w a c17 S N) (hN : N ≤ 300) {v : Int32} (hv : v = 0 ∨ v = 1) : ∃ wF, f_X3_goThrough_71 y0 p0 (gI w 0 5 v) = some wF ∧ FN p A nm nc nr nk wF a (upd c17 4 v) N := by
  obtain ⟨⟨nl, hb, hi⟩, q3, q4, q5, q6, q7, q8, q9, q10, q11, q12, q13, q14⟩ := h
  unfold f_X3_goThrough_71
  have hb2 : Bq (gsub (gI (gI w 0 5 v) 0 2 (((gI w 0 5 v).1 3 2) - y0)) e_shL_shB_3) a nm nc nr nk nl := hb
  rw [x_paid_all hb2 hi, Option.bind_some]
  refine ⟨_, rfl, ⟨nl, hb, hi⟩, fun i hi k => ?_, q4, q5, q6, hN, ?_, ?_, ?_, ?_, ?_, ?_⟩
  · rw [gI_ne _ _ _ _ (by omega), gI_ne _ _ _ _ (by omega), gI_ne _ _ _ _ (by omega)]
    exact q3 i hi k
  · rw [pk_un (by omega)]; exact q9
  · rw [pk_un (by omega)]
    show w.1 3 2 - y0 = c17 1
    rw [show w.1 3 2 = a 6 from hb.year, q13, add_back]
  · rw [pk_un (by omega)]
    show sTot a nk 5 - p0 = c17 2
    rw [q14, add_back]
  · rw [pk_un (by omega)]; exact q10
  · rw [pk_us]; rfl
  · rw [pk_us]; exact hv
theorem go_step {n1 s x7 : Nat} {y z : Int32} (h7 : x7 < 1000000) (h1 : F_X3_isRoundOver w (nI s) = some 0) (hs : s < 1000) : f_X3_goThrough_23 (n1 + 1) y z (nI s) (nI x7) w = (F_X3_behindStep (nI s) w).bind fun q => f_X3_goThrough_23 n1 y z q.1 (nI (x7 + 1)) q.2 := by
  show b_X3_goThrough_23 _ y z (nI s) (nI x7) w = _
  unfold b_X3_goThrough_23 f_X3_goThrough_63
  rw [if_neg (nI_geL h7 (by omega)), if_neg (nI_nm (by omega)), h1, Option.bind_some, if_pos zer_eq, nI_1]
theorem go_end {n1 : Nat} {x y z : Int32} : f_X3_goThrough_23 (n1 + 1) y z (-1 : Int32) x w = f_X3_goThrough_71 y z w := by
  show b_X3_goThrough_23 _ y z (-1 : Int32) x w = _
  unfold b_X3_goThrough_23
  rw [if_pos rfl, ite_self]
theorem x_step_none (h : LQ p A nm nc nr nk y0 p0 w a c17 S N) (hN : p.1 0 1 = nI (rkN (rK A) M)) (h30 : rkN (rK A) M ≤ 30) : F_X3_behindStep (nI (rkN (rK A) M)) w = some ((-1 : Int32), w) := by
  unfold F_X3_behindStep
  rw [x_has h hN h30 h30, if_neg (by omega), Option.bind_some, if_pos zer_eq]
theorem x_step_long (h : LQ p A nm nc nr nk y0 p0 w a c17 S N) (hN : p.1 0 1 = nI (rkN (rK A) M)) (h30 : rkN (rK A) M ≤ 30) {s : Nat} (hs : s < rkN (rK A) M) (hl : N = 300) : F_X3_behindStep (nI s) w = some ((-1 : Int32), gI w 0 5 (1 : Int32)) := by
  unfold F_X3_behindStep
  rw [x_has h hN h30 (by omega), if_pos hs, Option.bind_some, if_neg one_ne, h.2.2.2.2.1, if_neg (nI_nltL (by show 300 ≤ N; omega) (by omega))]
theorem x_step_go (h : LQ p A nm nc nr nk y0 p0 w a c17 S N) (hN : p.1 0 1 = nI (rkN (rK A) M)) (h30 : rkN (rK A) M ≤ 30) {s : Nat} (hs : s < rkN (rK A) M) (hl : N < 300) : F_X3_behindStep (nI s) w = (if p.1 1 s = (27 : Int32) then (some ((-1 : Int32), gI w 0 0 (nI (N + 1)))) else (if p.1 1 s = (23 : Int32) then ((F_X3_holds (gI w 0 0 (nI (N + 1))) (nI s)).bind fun q12 => (if q12 = 0 then some (p.1 7 s, gI w 0 0 (nI (N + 1))) else (some (nI (s + 1), gI w 0 0 (nI (N + 1)))))) else (if p.1 1 s = (25 : Int32) then ((F_X3_enterLoop (nI s) (gI w 0 0 (nI (N + 1)))).bind fun q11 => (some (nI (s + 1), q11))) else (if p.1 1 s = (22 : Int32) then ((F_X3_dustOrWait (gI w 0 0 (nI (N + 1)))).bind fun q10 => some (nI (s + 1), if q10.1 = 0 then gI q10.2 0 1 (q10.2.1 0 1 + 1) else q10.2)) else ((F_X3_act (nI s) (gI w 0 0 (nI (N + 1)))).bind fun q9 => some (nI (s + 1), if q9.1 = 0 then gI q9.2 0 1 (q9.2.1 0 1 + 1) else q9.2)))))) := by
  have e7 : w.1 17 s = p.1 1 s := h.2.1 1 (by omega) s
  have ew : nI N + (1 : Int32) = nI (N + 1) := nq_addL _ _
  have f121 : ∀ q : Int32 × GW, f_X3_behindStep_121 (nI s) q.1 q.2 = some (nI (s + 1), if q.1 = 0 then gI q.2 0 1 (q.2.1 0 1 + 1) else q.2) := by
    intro q
    unfold f_X3_behindStep_121 f_X3_behindStep_138
    by_cases e : q.1 = 0
    · rw [if_pos e, if_pos e, nI_1]
    · rw [if_neg e, if_neg e, nI_1]
  unfold F_X3_behindStep
  rw [x_has h hN h30 (by omega), if_pos hs, Option.bind_some, if_neg one_ne, h.2.2.2.2.1, if_pos (nI_ltL (by show N < 300; omega) (by omega)), if_pos (gin_nI (by omega) (by omega)), nI_clamp (n := s) (by omega), e7, ew, nI_1]
  have hc := x_close (h.step (N + 1)) hN h30 hs
  rw [hc, Option.bind_some]
  simp only [f121]
theorem m_live_go (h7 : A 7 = nI M) (ha : ∀ k, 86 ≤ k → a k = A k) (ha7 : a 7 = A 7) {i : Nat} (hM : M ≤ 60) (hi : i < M) (hN : N < 300) (h26 : ¬ A (86 + 6 * i) = (26 : Int32)) (k32 : Int32 → GW → Option GW) : b_X11_lives_32 k32 (nI i) (mZ m a c16 c17 (nI S) (nI N)) = (F_X11_does (nI (86 + 6 * i)) (mZ m a c16 c17 (nI S) (nI (N + 1)))).bind fun q7 => (f_X11_lives_111 k32 (nI i) (nI (86 + 6 * i)) (if q7.1 = 0 then (1 : Int32) else 0) (c17 0) (0 : Int32) q7.2) := by
  unfold b_X11_lives_32
  rw [Z_1, Z_17, Z_34, ha7, h7, if_neg (nI_ge hi (by omega)), if_neg (nI_neL (by show N ≠ 300; omega) (by omega) (by omega)), row_ix, if_pos (gin_nI (by omega) (by omega)), nI_clamp (n := 86 + 6 * i) (by omega), ha _ (by omega), if_neg h26, gI_Z34, show nI N + (1 : Int32) = nI (N + 1) from nq_addL _ _]
  congr 1
  funext q
  by_cases e : q.1 = 0
  · rw [if_pos e, if_pos e]
  · rw [if_neg e, if_neg e]
theorem m_111 (ha : ∀ k, 86 ≤ k → a k = A k) {i : Nat} (hi : i ≤ 60) (h24 : ¬ A (86 + 6 * i) = (24 : Int32)) (k32 : Int32 → GW → Option GW) (s0 s1 : Int32) : f_X11_lives_111 k32 (nI i) (nI (86 + 6 * i)) s0 s1 (0 : Int32) (mZ m a c16 c17 (nI S) n) = f_X11_lives_140 k32 (nI i) (nI (86 + 6 * i)) (mZ m a c16 (upd c17 0 (s1 + s0)) (nI S) n) := by
  unfold f_X11_lives_111
  rw [if_pos (show gin (0 : Int32) 5 by decide), if_pos (gin_nI (by omega) (by omega)), nI_clamp (n := 86 + 6 * i) (by omega), Z_1, ha _ (by omega), if_neg h24, gI_Z17]
  rfl
theorem m_111L (ha : ∀ k, 86 ≤ k → a k = A k) {i : Nat} (hi : i ≤ 60) (h24 : A (86 + 6 * i) = (24 : Int32)) (k32 : Int32 → GW → Option GW) (s0 s1 : Int32) : f_X11_lives_111 k32 (nI i) (nI (86 + 6 * i)) s0 s1 (0 : Int32) (mZ m a c16 c17 (nI S) n) = f_X11_lives_140 k32 (nI i) (nI (86 + 6 * i)) (mZ m a (upd c16 i (A (86 + 6 * i + 1) - 1)) (upd c17 0 (s1 + s0)) (nI S) n) := by
  unfold f_X11_lives_111
  rw [if_pos (show gin (0 : Int32) 5 by decide), if_pos (gin_nI (by omega) (by omega)), nI_clamp (n := 86 + 6 * i) (by omega), Z_1, ha _ (by omega), if_pos h24, show nI (86 + 6 * i) + (1 : Int32) = nI (86 + 6 * i + 1) from nq_addL _ _, if_pos (gin_nI (by omega) (by omega)), if_pos (gin_nI (by omega) (by omega)), nI_clamp (n := 86 + 6 * i + 1) (by omega), nI_clamp (n := i) (by omega), ha (86 + 6 * i + 1) (by omega), gI_Z17, gI_Z16]
  rfl
theorem m_140 (ha : ∀ k, 86 ≤ k → a k = A k) {i : Nat} (hi : i ≤ 60) (hlt : A (86 + 6 * i) < (2300 : Int32)) (k32 : Int32 → GW → Option GW) : f_X11_lives_140 k32 (nI i) (nI (86 + 6 * i)) (mZ m a c16 c17 (nI S) n) = (F_X11_behindEnds (nI (i + 1)) (mZ m a c16 c17 (nI S) n)).bind fun q19 => k32 q19.1 q19.2 := by
  unfold f_X11_lives_140 f_X11_lives_174 f_X11_lives_177
  rw [if_pos (gin_nI (by omega) (by omega)), nI_clamp (n := 86 + 6 * i) (by omega), Z_1, ha _ (by omega), if_pos hlt, nI_1]
theorem m_140I (ha : ∀ k, 86 ≤ k → a k = A k) {i e : Nat} (hi : i ≤ 60) (hlt : ¬ A (86 + 6 * i) < (2300 : Int32)) {r : Int32} (hr : r = 0 ∨ r = 1) (hh : F_X11_holds (mZ m a c16 c17 (nI S) n) (nI (86 + 6 * i)) = some r) (he : A (86 + 6 * i + 4) = nI e) (k32 : Int32 → GW → Option GW) : f_X11_lives_140 k32 (nI i) (nI (86 + 6 * i)) (mZ m a c16 c17 (nI S) n) = (F_X11_behindEnds (nI (if r = 0 then e + 1 else i + 1)) (mZ m a c16 c17 (nI S) n)).bind fun q19 => k32 q19.1 q19.2 := by
  unfold f_X11_lives_140 f_X11_lives_174 f_X11_lives_177
  rw [if_pos (gin_nI (by omega) (by omega)), nI_clamp (n := 86 + 6 * i) (by omega), Z_1, ha _ (by omega), if_neg hlt, hh, Option.bind_some, show nI (86 + 6 * i) + (4 : Int32) = nI (86 + 6 * i + 4) from nq_addL _ _, if_pos (gin_nI (by omega) (by omega)), nI_clamp (n := 86 + 6 * i + 4) (by omega), ha (86 + 6 * i + 4) (by omega), he, nI_1, nI_1]
  rcases hr with q | q
  · rw [q, if_pos rfl, if_pos rfl]
  · rw [q, if_neg one_ne, if_neg one_ne]
end
