/-! Swaps that two would like, what a fan is worth, the soonest way. -/
section
variable {x m : GW} {nc nr nk nl : Nat}
def sLkd (a : Nat → Int32) (c o : Nat) (y : Int32) : Prop := ¬ sGa a c (a (27 + 7 * o)).toNatClampNeg y + sGa a o (a (27 + 7 * c)).toNatClampNeg y ≤ sGt a c y + sGt a o y
theorem x_liked (hb : Bq (gsub x e_shX_shB_14) (m.1 1) (m.2 2) nc nr nk nl) (hi : Bi (m.1 1) nc nr nk nl) {c o : Nat} (hc : c < nk) (ho : o < nk) (y : Int32) : (sLkd (m.1 1) c o y → F_X10_isSwapLiked x y (nI c) (nI o) = some 1 ∧ F_X11_isLikedBy m (nI c) (nI o) y = some 1) ∧ (¬ sLkd (m.1 1) c o y → F_X10_isSwapLiked x y (nI c) (nI o) = some 0 ∧ F_X11_isLikedBy m (nI c) (nI o) y = some 0) := by
  have hn := hi.cnt
  obtain ⟨s, hs, es⟩ := hi.seat hc
  obtain ⟨t, ht, et⟩ := hi.seat ho
  have e1 : x.1 19 c = nI s := (hb.seat hc).trans es
  have e2 : x.1 19 o = nI t := (hb.seat ho).trans et
  have ex : F_X10_isSwapLiked x y (nI c) (nI o) = (if sGa (m.1 1) c t y + sGa (m.1 1) o s y ≤ sGt (m.1 1) c y + sGt (m.1 1) o y then some (0 : Int32) else some 1) := by
    unfold F_X10_isSwapLiked
    rw [x_staying hb hi hc, x_staying hb hi ho, Option.bind_some, Option.bind_some, if_pos (gin_nI (by omega) (by omega)), nI_clamp (by omega), e2, x_seated hb hi hc ht, Option.bind_some, if_pos (gin_nI (by omega) (by omega)), nI_clamp (by omega), e1, x_seated hb hi ho hs, Option.bind_some]
  have em : F_X11_isLikedBy m (nI c) (nI o) y = (if sGa (m.1 1) c t y + sGa (m.1 1) o s y ≤ sGt (m.1 1) c y + sGt (m.1 1) o y then some (0 : Int32) else some 1) := by
    unfold F_X11_isLikedBy
    rw [m_clerk0 (by omega), m_clerk0 (by omega), Option.bind_some, es, et, m_greyAt hi hc ht, Option.bind_some, Option.bind_some, m_greyAt hi ho hs, Option.bind_some, m_greyThen hi hc, m_greyThen hi ho, Option.bind_some, Option.bind_some]
  unfold sLkd
  rw [es, et, nI_clamp (by omega), nI_clamp (by omega), ex, em]
  refine ⟨fun h => ⟨if_neg h, if_neg h⟩, fun h => ⟨if_pos (Classical.not_not.mp h), if_pos (Classical.not_not.mp h)⟩⟩
theorem x_areTwo (hb : Bq (gsub x e_shX_shB_14) (m.1 1) (m.2 2) nc nr nk nl) (hi : Bi (m.1 1) nc nr nk nl) (u v : Int32) : F_X10_areTwo x u v = some (if gin u nk ∧ gin v nk ∧ u ≠ v then 1 else 0) := by
  unfold F_X10_areTwo
  rw [x_hasClerk hb hi, x_hasClerk hb hi, Option.bind_some, Option.bind_some, ite01, ite01]
  by_cases hu : gin u nk
  · rw [if_pos hu]
    by_cases hv : gin v nk
    · rw [if_pos hv]
      by_cases e : u = v
      · rw [if_pos e, if_neg (fun q => q.2.2 e)]
      · rw [if_neg e, if_pos (show gin u nk ∧ gin v nk ∧ u ≠ v from ⟨hu, hv, e⟩)]
    · rw [if_neg hv, if_neg (show ¬ (gin u nk ∧ gin v nk ∧ u ≠ v) from fun q => hv q.2.1)]
  · rw [if_neg hu, if_neg (show ¬ (gin u nk ∧ gin v nk ∧ u ≠ v) from fun q => hu q.1)]
theorem s_isLiked (h : RR x m) (y u v : Int32) : Sm (F_X10_isLiked y u v x) (F_X11_isLiked y u v m) := by
  obtain ⟨nc, nr, nk, nl, hb, hi⟩ := h.bnk
  have hn := hi.cnt
  unfold F_X10_isLiked F_X11_isLiked f_X10_isLiked_17 f_X10_isLiked_39 f_X11_isLiked_22 f_X11_isLiked_44
  rw [x_isYears, x_areTwo hb hi, m_isAhead hi, m_isClerk hi]
  simp only [F_X10_answer, F_X10_refuse, F_X10_answerOrRefuse, F_X10_grant, F_X10_deny, F_X11_gives, F_X11_refuse, F_X11_orNone, F_X11_is, Option.bind_some, ite01]
  by_cases hy : btw y 0 40
  · rw [if_pos hy]
    by_cases hu : gin u nk
    · rw [if_pos (show gin u nk ∧ btw y 0 40 from ⟨hu, hy⟩)]
      by_cases hv : gin v nk
      · by_cases e : u = v
        · rw [if_neg (show ¬ (gin u nk ∧ gin v nk ∧ u ≠ v) from fun q => q.2.2 e), if_pos hv, if_pos e]
          exact Sm.fin h _ _
        · rw [if_pos (show gin u nk ∧ gin v nk ∧ u ≠ v from ⟨hu, hv, e⟩), if_pos hv, if_neg e]
          obtain ⟨c, hc, rfl⟩ := gin_of hu (by omega)
          obtain ⟨o, ho, rfl⟩ := gin_of hv (by omega)
          by_cases hl : sLkd (m.1 1) c o y
          · rw [((x_liked hb hi hc ho y).1 hl).1, ((x_liked hb hi hc ho y).1 hl).2, Option.bind_some, Option.bind_some, if_neg one_ne, if_neg one_ne]
            exact Sm.fin h _ _
          · rw [((x_liked hb hi hc ho y).2 hl).1, ((x_liked hb hi hc ho y).2 hl).2, Option.bind_some, Option.bind_some, if_pos zer_eq, if_pos zer_eq]
            exact Sm.fin h _ _
      · rw [if_neg (show ¬ (gin u nk ∧ gin v nk ∧ u ≠ v) from fun q => hv q.2.1), if_neg hv]
        exact Sm.fin h _ _
    · rw [if_neg (show ¬ (gin u nk ∧ gin v nk ∧ u ≠ v) from fun q => hu q.1), if_neg (show ¬ (gin u nk ∧ btw y 0 40) from fun q => hu q.1)]
      exact Sm.fin h _ _
  · rw [if_neg hy, if_neg (show ¬ (gin u nk ∧ btw y 0 40) from fun q => hy q.2)]
    exact Sm.fin h _ _
theorem liked_in (hb : Bq (gsub x e_shX_shB_14) (m.1 1) (m.2 2) nc nr nk nl) (hi : Bi (m.1 1) nc nr nk nl) (y : Int32) {c : Nat} (hc : c < nk) (k18 k22 : Int32 → Int32 → Int32 → GW → Option (Int32 × GW)) : ∀ k n n2 i t, i + k = nk → k < n → k < n2 → ∃ t', f_X10_liked_34 k18 n y t (nI c) (nI i) x = k18 y t' (nI (c + 1)) x ∧ f_X11_liked_37 k22 n2 y t (nI c) (nI i) m = k22 y t' (nI (c + 1)) m := by
  have hn := hi.cnt
  have hn2 : x.1 14 5 = nI nk := hb.n2
  intro k
  induction k with
  | zero =>
    intro n n2 i t e h1 h2
    obtain ⟨n, rfl⟩ := fu_pos h1
    obtain ⟨n2, rfl⟩ := fu_pos h2
    refine ⟨t, ?_, ?_⟩
    · show b_X10_liked_34 _ _ y t (nI c) (nI i) x = _
      unfold b_X10_liked_34
      rw [hn2, if_pos (nI_le (by omega) (by omega)), nI_1]
    · show b_X11_liked_37 _ _ y t (nI c) (nI i) m = _
      unfold b_X11_liked_37
      rw [hi.n2, if_pos (nI_le (by omega) (by omega)), nI_1]
  | succ k ih =>
    intro n n2 i t e h1 h2
    obtain ⟨n, rfl⟩ := fu_pos h1
    obtain ⟨n2, rfl⟩ := fu_pos h2
    show ∃ t', b_X10_liked_34 _ _ y t (nI c) (nI i) x = _ ∧ b_X11_liked_37 _ _ y t (nI c) (nI i) m = _
    unfold b_X10_liked_34 b_X11_liked_37 f_X10_liked_60 f_X11_liked_65
    rw [hn2, hi.n2, if_neg (nI_ge (by omega) (by omega)), if_neg (nI_ge (by omega) (by omega)), nI_1]
    by_cases hl : sLkd (m.1 1) c i y
    · rw [((x_liked hb hi hc (by omega) y).1 hl).1, ((x_liked hb hi hc (by omega) y).1 hl).2, Option.bind_some, Option.bind_some, if_neg one_ne, if_neg one_ne]
      exact ih n n2 (i + 1) (t + 1) (by omega) (by omega) (by omega)
    · rw [((x_liked hb hi hc (by omega) y).2 hl).1, ((x_liked hb hi hc (by omega) y).2 hl).2, Option.bind_some, Option.bind_some, if_pos zer_eq, if_pos zer_eq, Int32.add_zero]
      exact ih n n2 (i + 1) t (by omega) (by omega) (by omega)
theorem liked_out (h : RR x m) (hb : Bq (gsub x e_shX_shB_14) (m.1 1) (m.2 2) nc nr nk nl) (hi : Bi (m.1 1) nc nr nk nl) (y : Int32) : ∀ k n n2 c t, c + k = nk → k < n → k < n2 → Sm (f_X10_liked_18 n y t (nI c) x) (f_X11_liked_22 n2 y t (nI c) m) := by
  have hn := hi.cnt
  have hn2 : x.1 14 5 = nI nk := hb.n2
  intro k
  induction k with
  | zero =>
    intro n n2 c t e h1 h2
    obtain ⟨n, rfl⟩ := fu_pos h1
    obtain ⟨n2, rfl⟩ := fu_pos h2
    show Sm (b_X10_liked_18 _ y t (nI c) x) (b_X11_liked_22 _ y t (nI c) m)
    unfold b_X10_liked_18 b_X11_liked_22
    rw [hn2, hi.n2, if_pos (nI_le (by omega) (by omega)), if_pos (nI_le (by omega) (by omega))]
    exact Sm.fin h _ _
  | succ k ih =>
    intro n n2 c t e h1 h2
    obtain ⟨n, rfl⟩ := fu_pos h1
    obtain ⟨n2, rfl⟩ := fu_pos h2
    show Sm (b_X10_liked_18 _ y t (nI c) x) (b_X11_liked_22 _ y t (nI c) m)
    unfold b_X10_liked_18 b_X11_liked_22
    rw [hn2, hi.n2, if_neg (nI_ge (by omega) (by omega)), if_neg (nI_ge (by omega) (by omega)), nI_1]
    obtain ⟨t', e1, e2⟩ := liked_in hb hi y (c := c) (by omega) (f_X10_liked_18 n) (f_X11_liked_22 n2) k FU FU (c + 1) t (by omega) (by have := FU_big; omega) (by have := FU_big; omega)
    rw [e1, e2]
    exact ih n n2 (c + 1) t' (by omega) (by omega) (by omega)
theorem s_liked (h : RR x m) (y : Int32) : Sm (F_X10_liked y x) (F_X11_liked y m) := by
  obtain ⟨nc, nr, nk, nl, hb, hi⟩ := h.bnk
  have hn := hi.cnt
  unfold F_X10_liked F_X11_liked
  rw [x_isYears, show F_X11_isFrom y.toInt64 (0 : Int64) (40 : Int64) = some (if btw y 0 40 then 1 else 0) from m_from y (p := 0) (q := 40) (by omega) (by omega)]
  simp only [F_X10_answer, F_X10_refuse, F_X10_answerOrRefuse, F_X10_grant, F_X10_deny, F_X11_gives, F_X11_refuse, F_X11_orNone, F_X11_is, Option.bind_some, ite01]
  by_cases hy : btw y 0 40
  · rw [if_pos hy, if_pos hy]
    exact liked_out h hb hi y nk FU FU 0 0 (by omega) (by have := FU_big; omega) (by have := FU_big; omega)
  · rw [if_neg hy, if_neg hy]
    exact Sm.fin h _ _
/-! what a fan is worth -/
def sPo (a : Nat → Int32) (nr c : Nat) (sham : Int32) (i k : Nat) (t : Int32) : Int32 := fo (fun n t => t + sPb a nr (imin (99 : Int32) (sGt a c (nI n) + sham))) i k t
theorem x_payOver_l (hb : Bq (gsub x e_shX_shB_14) (m.1 1) (m.2 2) nc nr nk nl) (hi : Bi (m.1 1) nc nr nk nl) {c : Nat} (hc : c < nk) (sham : Int32) {y : Nat} (hy : y < 1000) : ∀ k n i t, i + k = y → k < n → f_X10_payOver_6 x n (nI c) sham (nI y) t (nI i) = some (sPo (m.1 1) nr c sham i k t) := by
  intro k
  induction k with
  | zero =>
    intro n i t e h1
    obtain ⟨n, rfl⟩ := fu_pos h1
    show b_X10_payOver_6 _ x (nI c) sham (nI y) t (nI i) = _
    unfold b_X10_payOver_6
    rw [if_pos (nI_le (by omega) (by omega))]
    rfl
  | succ k ih =>
    intro n i t e h1
    obtain ⟨n, rfl⟩ := fu_pos h1
    show b_X10_payOver_6 _ x (nI c) sham (nI y) t (nI i) = _
    unfold b_X10_payOver_6
    rw [if_neg (nI_ge (by omega) (by omega)), x_staying hb hi hc, Option.bind_some, x_looksBy, Option.bind_some, x_payBy hb hi, Option.bind_some, nI_1, ih n (i + 1) _ (by omega) (by omega)]
    rfl
theorem x_payOver (hb : Bq (gsub x e_shX_shB_14) (m.1 1) (m.2 2) nc nr nk nl) (hi : Bi (m.1 1) nc nr nk nl) {c : Nat} (hc : c < nk) (sham : Int32) {y : Nat} (hy : y < 1000) : F_X10_payOver x (nI c) sham (nI y) = some (sPo (m.1 1) nr c sham 0 y 0) :=
  x_payOver_l hb hi hc sham hy y FU 0 0 (by omega) (by have := FU_big; omega)
theorem m_looksThen (hi : Bi (m.1 1) nc nr nk nl) {c : Nat} (hc : c < nk) (y s : Int32) : F_X11_looksThen m (nI c) y s = some (imin (99 : Int32) (sGt (m.1 1) c y + s)) := by
  unfold F_X11_looksThen
  rw [m_greyThen hi hc]
  rfl
theorem add_sub_sub (a b c d : Int32) : a - b + (c - d) = a + c - (b + d) := by
  rw [Int32.sub_eq_add_neg, Int32.sub_eq_add_neg, Int32.sub_eq_add_neg, Int32.neg_add, Int32.sub_eq_add_neg]
  ac_rfl
theorem m_worth_l (hi : Bi (m.1 1) nc nr nk nl) {c : Nat} (hc : c < nk) (sham more : Int32) {y : Nat} (hy : y < 1000) : ∀ k n i t u, i + k = y → k < n → f_X11_worth_52 n (nI c) (nI y) sham more (t - u) (nI i) m = some (sPo (m.1 1) nr c more i k t - sPo (m.1 1) nr c sham i k u, gI m 0 2 0) := by
  intro k
  induction k with
  | zero =>
    intro n i t u e h1
    obtain ⟨n, rfl⟩ := fu_pos h1
    show b_X11_worth_52 _ (nI c) (nI y) sham more (t - u) (nI i) m = _
    unfold b_X11_worth_52
    rw [if_pos (nI_le (by omega) (by omega))]
    rfl
  | succ k ih =>
    intro n i t u e h1
    obtain ⟨n, rfl⟩ := fu_pos h1
    show b_X11_worth_52 _ (nI c) (nI y) sham more (t - u) (nI i) m = _
    unfold b_X11_worth_52
    rw [if_neg (nI_ge (by omega) (by omega)), m_looksThen hi hc, Option.bind_some, m_payBy hi, Option.bind_some, m_looksThen hi hc, Option.bind_some, m_payBy hi, Option.bind_some, nI_1, add_sub_sub, ih n (i + 1) _ _ (by omega) (by omega)]
    rfl
theorem s_worth (h : RR x m) (u v y : Int32) : Sm (F_X10_worth u v y x) (F_X11_worth u v y m) := by
  obtain ⟨nc, nr, nk, nl, hb, hi⟩ := h.bnk
  have hn := hi.cnt
  unfold F_X10_worth F_X11_worth f_X10_worth_29 f_X11_worth_21
  rw [x_hasClerk hb hi, show F_X10_between v (0 : Int32) (99 : Int32) = some (if btw v 0 99 then 1 else 0) from x_btw v 0 99, x_isYears, m_isAhead hi, show F_X11_isFrom v.toInt64 (0 : Int64) (99 : Int64) = some (if btw v 0 99 then 1 else 0) from m_from v (p := 0) (q := 99) (by omega) (by omega)]
  simp only [F_X10_answer, F_X10_refuse, F_X10_answerOrRefuse, F_X10_grant, F_X10_deny, F_X11_gives, F_X11_refuse, F_X11_orNone, F_X11_is, Option.bind_some, ite01]
  by_cases hu : gin u nk
  · by_cases hv : btw v 0 99
    · by_cases hy : btw y 0 40
      · obtain ⟨c, hc, rfl⟩ := gin_of hu (by omega)
        obtain ⟨j, _, hj, rfl⟩ := btw_of hy (by omega) (by omega)
        rw [if_pos hu, if_pos hv, if_pos hy, if_pos (show gin (nI c) nk ∧ btw (nI j) 0 40 from ⟨hu, hy⟩), if_pos hv, if_pos (gin_nI (by omega) (by omega)), nI_clamp (by omega), show x.1 22 c = m.1 1 (27 + 7 * c + 3) from hb.sham hc, x_payOver hb hi hc _ (by omega), x_payOver hb hi hc _ (by omega), m_clerk3 (by omega), Option.bind_some, Option.bind_some, Option.bind_some]
        have e := m_worth_l hi hc (m.1 1 (27 + 7 * c + 3)) (imin (99 : Int32) (m.1 1 (27 + 7 * c + 3) + v)) (y := j) (by omega) j FU 0 0 0 (by omega) (by have := FU_big; omega)
        rw [Int32.sub_zero] at e
        have e2 : f_X11_worth_52 FU (nI c) (nI j) (m.1 1 (27 + 7 * c + 3)) (imin (99 : Int32) (m.1 1 (27 + 7 * c + 3) + v)) 0 0 m = _ := e
        rw [e2]
        exact Sm.fin h _ _
      · rw [if_pos hu, if_pos hv, if_neg hy, if_neg (show ¬ (gin u nk ∧ btw y 0 40) from fun q => hy q.2)]
        exact Sm.fin h _ _
    · rw [if_pos hu, if_neg hv, if_neg hv, ite_self]
      exact Sm.fin h _ _
  · rw [if_neg hu, if_neg (show ¬ (gin u nk ∧ btw y 0 40) from fun q => hu q.1)]
    exact Sm.fin h _ _
end
