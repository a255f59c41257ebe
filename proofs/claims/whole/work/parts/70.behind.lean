/-! Behind the ends, on both sides. -/
theorem row_ix (i : Nat) : (86 : Int32) + ((6 : Int32) * nI i) = nI (86 + 6 * i) := by rw [nq_Lmul, nq_Ladd]
def PS (w : GW) (A c16 : Nat → Int32) (i : Nat) : Prop := ∃ d, w.1 0 7 = nI d ∧ StN (rK A) (w.1 1) (w.1 2) c16 (skN (rK A) i) d
section
variable {p m w : GW} {A : Nat → Int32} {nm : Nat → Int64} {nc nr nk M : Nat} {y0 p0 : Int32} {a c16 c17 : Nat → Int32} {S N : Nat} {n : Int32}
theorem PS.sf {w' : GW} {i : Nat} (h : PS w A c16 i) (q : SF w w') : PS w' A c16 i := by
  obtain ⟨d, h1, h2⟩ := h
  refine ⟨d, q.2.2.trans h1, ?_⟩
  rw [q.1, q.2.1]
  exact h2
theorem Pr.op (hP : Pr p A nk nc M) (hM : skN (rK A) M = []) {o : Nat} (ho : o < M) (h : isOp (A (86 + 6 * o))) : ∃ e l, o < e ∧ e < M ∧ A (86 + 6 * e) = (25 : Int32) ∧ skN (rK A) e = o :: l ∧ A (86 + 6 * o + 4) = nI e ∧ p.1 7 (rkN (rK A) o) = nI (rkN (rK A) e) := by
  rcases hP.2.2.2.2.2 o ho h with h1 | h1
  · rw [hM] at h1; exact absurd h1 List.not_mem_nil
  · exact h1
theorem op_n25 {o : Nat} (h : isOp (A (86 + 6 * o))) : ¬ rK A o = (25 : Int32) := fun q => by
  rw [show A (86 + 6 * o) = 25 from q] at h
  rcases h with e | e | e | e <;> exact absurd e (by decide)
theorem rk_lt {o e : Nat} (h : ¬ rK A o = (25 : Int32)) (he : o < e) : rkN (rK A) o + 1 ≤ rkN (rK A) e := by
  rw [← rkN_row h]
  exact rkN_mono _ he
theorem LQ.c1 (h : LQ p A nm nc nr nk y0 p0 w a c17 S N) (k : Nat) (v : Int32) : LQ p A nm nc nr nk y0 p0 (gI w 1 k v) a c17 S N := by
  obtain ⟨q1, q3, q4, q5, q6, q7, q8, q9, q10, q11, q12, q13, q14⟩ := h
  refine ⟨q1, fun i hi k => ?_, q4, q5, q6, q7, q8, q9, q10, q11, q12, q13, q14⟩
  rw [gI_ne _ _ _ _ (by omega)]
  exact q3 i hi k
theorem LQ.c2 (h : LQ p A nm nc nr nk y0 p0 w a c17 S N) (k : Nat) (v : Int32) : LQ p A nm nc nr nk y0 p0 (gI w 2 k v) a c17 S N := by
  obtain ⟨q1, q3, q4, q5, q6, q7, q8, q9, q10, q11, q12, q13, q14⟩ := h
  refine ⟨q1, fun i hi k => ?_, q4, q5, q6, q7, q8, q9, q10, q11, q12, q13, q14⟩
  rw [gI_ne _ _ _ _ (by omega)]
  exact q3 i hi k
theorem LQ.c7 (h : LQ p A nm nc nr nk y0 p0 w a c17 S N) (v : Int32) : LQ p A nm nc nr nk y0 p0 (gI w 0 7 v) a c17 S N := by
  obtain ⟨q1, q3, q4, q5, q6, q7, q8, q9, q10, q11, q12, q13, q14⟩ := h
  refine ⟨q1, fun i hi k => ?_, q4, q5, q6, q7, q8, q9, q10, q11, q12, q13, q14⟩
  rw [gI_ne _ _ _ _ (by omega)]
  exact q3 i hi k
theorem x_has (h : LQ p A nm nc nr nk y0 p0 w a c17 S N) (hN : p.1 0 1 = nI (rkN (rK A) M)) (h30 : rkN (rK A) M ≤ 30) {s : Nat} (hs : s ≤ 30) : F_X5_hasStep (gsub w e_shL_shP_16) (nI s) = some (if s < rkN (rK A) M then 1 else 0) := by
  unfold F_X5_hasStep
  rw [show (gsub w e_shL_shP_16).1 0 1 = nI (rkN (rK A) M) from (h.2.1 0 (by omega) 1).trans hN, if_neg (nI_pos (by omega))]
  by_cases e : s < rkN (rK A) M
  · rw [if_pos e, if_neg (nI_ge e (by omega)), if_neg (nI_geL (by show s < 30; omega) (by omega))]
  · rw [if_neg e, if_pos (nI_le (by omega) (by omega))]
theorem x_close (h : LQ p A nm nc nr nk y0 p0 w a c17 S N) (hN : p.1 0 1 = nI (rkN (rK A) M)) (h30 : rkN (rK A) M ≤ 30) {s : Nat} (hs : s < rkN (rK A) M) : F_X5_closeOf (gsub w e_shL_shP_16) (nI s) = some (p.1 7 s) := by
  unfold F_X5_closeOf
  rw [x_has h hN h30 (by omega), if_pos hs, Option.bind_some, if_neg one_ne, if_pos (gin_nI (by omega) (by omega)), nI_clamp (by omega)]
  exact congrArg some (h.2.1 7 (by omega) s)
theorem d_neg : nI 0 - (1 : Int32) = (-1 : Int32) := by decide
theorem x_over_no (hP : Pr p A nk nc M) (hM : skN (rK A) M = []) (hN : p.1 0 1 = nI (rkN (rK A) M)) (h : LQ p A nm nc nr nk y0 p0 w a c17 S N) {i : Nat} (hs : PS w A c16 i) (hi : i ≤ M) (hi2 : i = M ∨ ¬ rK A i = (25 : Int32)) : F_X3_isRoundOver w (nI (rkN (rK A) i)) = some 0 := by
  obtain ⟨d, h1, h2⟩ := hs
  have hd := StN_len _ h2
  have h3 := hP.2.2.1 i hi
  have h30 := hP.1
  have hMb := hP.bound
  unfold F_X3_isRoundOver
  rw [h1]
  cases d with
  | zero => rw [d_neg, if_pos (by decide)]
  | succ d =>
    rw [show nI (d + 1) - (1 : Int32) = nI d from nI_sub (a := d + 1) (b := 1) (by omega), if_neg (nI_pos (by omega)), if_neg (nI_geL (by show d < 3; omega) (by omega)), if_pos (gin_nI (by omega) (by omega)), nI_clamp (by omega)]
    obtain ⟨o, o1, o2, o3⟩ := StN_top _ h2
    have ho : o < i := skN_lt i o1
    have hop : isOp (A (86 + 6 * o)) := Or.inl o2
    obtain ⟨e, l, e1, e2, e3, e4, e5, e6⟩ := hP.op hM (o := o) (by omega) hop
    have hie := skN_in e4 e3 o1
    have hlt : rkN (rK A) i < rkN (rK A) e := by
      rcases hi2 with q | q
      · rw [q] at o1
        rw [hM] at o1
        exact absurd o1 List.not_mem_nil
      · have : i ≠ e := fun z => q (by rw [z]; exact e3)
        have := rk_lt q (show i < e by omega)
        omega
    have heM := rkN_mono (rK A) (show e ≤ M by omega)
    have hoM := rk_lt (op_n25 hop) (show o < M by omega)
    rw [o3, x_close h hN h30 (by omega), Option.bind_some, e6, if_neg (fun z => by have := (nI_eq (by omega) (by omega)).mp z; omega)]
theorem x_over (hP : Pr p A nk nc M) (hN : p.1 0 1 = nI (rkN (rK A) M)) (h : LQ p A nm nc nr nk y0 p0 w a c17 S N) {i o d : Nat} (hd : d < 3) (h1 : w.1 0 7 = nI (d + 1)) (h2 : w.1 1 d = nI (rkN (rK A) o)) (ho : rkN (rK A) o < rkN (rK A) M) (h3 : p.1 7 (rkN (rK A) o) = nI (rkN (rK A) i)) : F_X3_isRoundOver w (nI (rkN (rK A) i)) = some 1 := by
  have h30 := hP.1
  unfold F_X3_isRoundOver
  rw [h1, show nI (d + 1) - (1 : Int32) = nI d from nI_sub (a := d + 1) (b := 1) (by omega), if_neg (nI_pos (by omega)), if_neg (nI_geL (by show d < 3; omega) (by omega)), if_pos (gin_nI (by omega) (by omega)), nI_clamp (by omega), h2, x_close h hN h30 ho, Option.bind_some, h3, if_pos rfl]
theorem x_behind {d : Nat} (hd : d < 3) (h1 : w.1 0 7 = nI (d + 1)) (x : Int32) {y : Nat} (hy : y ≤ 98) (h2 : w.1 2 d = nI y) : F_X3_behindRound x w = if y = 0 then some (x, gI w 0 7 (nI d)) else some (w.1 1 d + 1, gI w 2 d (nI (y - 1))) := by
  unfold F_X3_behindRound f_X3_behindRound_44
  rw [h1, show nI (d + 1) - (1 : Int32) = nI d from nI_sub (a := d + 1) (b := 1) (by omega), if_neg (nI_pos (by omega)), if_neg (nI_geL (by show d < 3; omega) (by omega)), if_pos (gin_nI (by omega) (by omega)), nI_clamp (by omega), h2]
  by_cases e : y = 0
  · rw [if_pos e, e, if_pos (by decide)]
  · rw [if_neg e, if_neg (nI_nlz (by omega) e), show nI y - (1 : Int32) = nI (y - 1) from nI_sub (a := y) (b := 1) (by omega)]
theorem m_end (hP : Pr p A nk nc M) (h7 : A 7 = nI M) (ha : ∀ k, 86 ≤ k → a k = A k) (ha7 : a 7 = A 7) {i o : Nat} {l : List Nat} (hi : i < M) (h25 : rK A i = (25 : Int32)) (hs : skN (rK A) i = o :: l) (k2 : Int32 → GW → Option (Int32 × GW)) : b_X11_behindEnds_2 k2 (nI i) (mZ m a c16 c17 (nI S) n) = if A (86 + 6 * o) = (24 : Int32) then (if c16 o ≤ 0 then k2 (nI (i + 1)) (mZ m a (upd c16 o (c16 o - 0)) c17 (nI S) n) else k2 (nI (o + 1)) (mZ m a (upd c16 o (c16 o - 1)) c17 (nI S) n)) else k2 (nI (i + 1)) (mZ m a (upd c16 o (c16 o - 0)) c17 (nI S) n) := by
  have hMb := hP.bound
  obtain ⟨o', l', h1, h2⟩ := hP.2.2.2.1 i hi h25
  have h3 : o' = o := by
    rw [hs] at h1
    injection h1 with h4 h5
    exact h4.symm
  subst h3
  have ho : o' < i := skN_lt i (by rw [hs]; exact List.mem_cons_self)
  unfold b_X11_behindEnds_2 f_X11_behindEnds_75 f_X11_behindEnds_76 f_X11_behindEnds_95 f_X11_behindEnds_111
  rw [Z_1, Z_16, ha7, h7, if_neg (nI_ge hi (by omega)), row_ix, show nI (86 + 6 * i) + (4 : Int32) = nI (86 + 6 * i + 4) from nq_addL _ _, if_pos (gin_nI (by omega) (by omega)), if_pos (gin_nI (by omega) (by omega)), nI_clamp (n := 86 + 6 * i) (by omega), nI_clamp (n := 86 + 6 * i + 4) (by omega), ha _ (by omega), if_pos (show A (86 + 6 * i) = 25 from h25), ha (86 + 6 * i + 4) (by omega), h2, row_ix, if_pos (gin_nI (by omega) (by omega)), nI_clamp (n := 86 + 6 * o') (by omega), ha (86 + 6 * o') (by omega)]
  have go : gin (nI o') 80 := gin_nI (by omega) (by omega)
  have ec : (nI o').toNatClampNeg = o' := nI_clamp (by omega)
  simp only [if_pos go, if_true, one_ne, if_false, ec, gI_Z16, nI_1]
end
