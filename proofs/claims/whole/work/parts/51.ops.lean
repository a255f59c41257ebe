/-! The public methods one by one: those that only tell. -/
abbrev btw (x : Int32) (p q : Nat) : Prop := ¬ x < nI p ∧ ¬ nI q < x
theorem btw_of {x : Int32} {p q : Nat} (h : btw x p q) (hp : p < 2147483648) (hq : q < 2147483648) : ∃ j, p ≤ j ∧ j ≤ q ∧ x = nI j := by
  have h1 := h.1
  have h2 := h.2
  rw [Int32.lt_iff_toInt_lt, nI_toInt hp] at h1
  rw [Int32.lt_iff_toInt_lt, nI_toInt hq] at h2
  have h0 : ¬ x < 0 := fun h3 => by
    rw [Int32.lt_iff_toInt_lt, show (0 : Int32).toInt = 0 from rfl] at h3
    omega
  obtain ⟨j, hj, rfl⟩ := nI_of h0
  rw [nI_toInt hj] at h1 h2
  exact ⟨j, by omega, by omega, rfl⟩
theorem x_btw (x : Int32) (p q : Nat) : F_X10_between x (nI p) (nI q) = some (if btw x p q then 1 else 0) := by
  unfold F_X10_between
  by_cases h1 : x < nI p
  · rw [if_pos h1, if_neg (fun h => h.1 h1)]
  · rw [if_neg h1]
    by_cases h2 : nI q < x
    · rw [if_pos h2, if_neg (fun h => h.2 h2)]
    · rw [if_neg h2, if_pos ⟨h1, h2⟩]
theorem lgc_lt (x y : Int64) : (lg_cmp x y < 0) = (x < y) := by
  unfold lg_cmp
  apply propext
  by_cases h1 : x > y
  · rw [if_pos h1]
    exact ⟨fun h => absurd h (by decide), fun h => absurd h (Int64.lt_asymm h1)⟩
  · rw [if_neg h1]
    by_cases h2 : x = y
    · rw [if_pos h2, h2]
      exact ⟨fun h => absurd h (by decide), fun h => absurd h Int64.lt_irrefl⟩
    · rw [if_neg h2]
      refine ⟨fun _ => ?_, fun _ => by decide⟩
      rw [Int64.lt_iff_toInt_lt]
      have h3 : ¬ y.toInt < x.toInt := fun q => h1 (Int64.lt_iff_toInt_lt.mpr q)
      have h4 : x.toInt ≠ y.toInt := fun q => h2 (Int64.toInt_inj.mp q)
      omega
theorem lgc_eq (x y : Int64) : (lg_cmp x y = 0) = (x = y) := by
  unfold lg_cmp
  apply propext
  by_cases h1 : x > y
  · rw [if_pos h1]
    exact ⟨fun h => absurd h (by decide), fun h => absurd (h ▸ h1) Int64.lt_irrefl⟩
  · rw [if_neg h1]
    by_cases h2 : x = y
    · rw [if_pos h2]
      exact ⟨fun _ => h2, fun _ => rfl⟩
    · rw [if_neg h2]
      exact ⟨fun h => absurd h (by decide), fun h => absurd h h2⟩
theorem lgc_gt (x y : Int64) : (0 < lg_cmp x y) = (y < x) := by
  unfold lg_cmp
  apply propext
  by_cases h1 : x > y
  · rw [if_pos h1]
    exact ⟨fun _ => h1, fun _ => by decide⟩
  · rw [if_neg h1]
    refine ⟨fun h => ?_, fun h => absurd h h1⟩
    by_cases h2 : x = y
    · rw [if_pos h2] at h; exact absurd h (by decide)
    · rw [if_neg h2] at h; exact absurd h (by decide)
theorem lgc_le (x y : Int64) : (lg_cmp x y ≤ 0) = ¬ y < x := by
  rw [← lgc_gt]
  exact propext Int32.not_lt.symm
theorem wide_lt (a b : Int32) : (a.toInt64 < b.toInt64) = (a < b) := by
  apply propext
  rw [Int64.lt_iff_toInt_lt, Int32.lt_iff_toInt_lt, Int32.toInt_toInt64, Int32.toInt_toInt64]
theorem m_from (x : Int32) {p q : Nat} (hp : p < 2147483648) (hq : q < 2147483648) : F_X11_isFrom x.toInt64 (lN p) (lN q) = some (if btw x p q then 1 else 0) := by
  unfold F_X11_isFrom
  rw [← nI_l hp, ← nI_l hq]
  by_cases h1 : x < nI p
  · rw [if_pos (by rw [lgc_lt, wide_lt]; exact h1), if_neg (fun h => h.1 h1)]
  · rw [if_neg (by rw [lgc_lt, wide_lt]; exact h1)]
    by_cases h2 : nI q < x
    · rw [if_pos (by rw [lgc_gt, wide_lt]; exact h2), if_neg (fun h => h.2 h2)]
    · rw [if_neg (by rw [lgc_gt, wide_lt]; exact h2), if_pos ⟨h1, h2⟩]
theorem ite01 {α : Type} {c : Prop} [Decidable c] (A B : α) : (if (if c then (1 : Int32) else 0) = 0 then A else B) = if c then B else A := by
  by_cases h : c
  · rw [if_pos h, if_pos h, if_neg one_ne]
  · rw [if_neg h, if_neg h, if_pos zer_eq]
theorem ite02 {α : Type} {c : Prop} [Decidable c] (A B : α) : (if (if c then (1 : Int32) else 0) = 0 ∨ (if c then (1 : Int32) else 0) = 1 then A else B) = A := by
  by_cases h : c
  · rw [if_pos h, if_pos (Or.inr rfl)]
  · rw [if_neg h, if_pos (Or.inl rfl)]
theorem x_isYears (w : GW) (y : Int32) : F_X10_isYears w y = some (if btw y 0 40 then 1 else 0) := by
  unfold F_X10_isYears
  rw [show F_X10_between y (0 : Int32) (40 : Int32) = some (if btw y 0 40 then 1 else 0) from x_btw y 0 40, Option.bind_some, ite02]
theorem if_and {α : Type} {c d : Prop} [Decidable c] [Decidable d] (A B : α) : (if c then (if d then A else B) else B) = if c ∧ d then A else B := by
  by_cases h : c
  · by_cases h2 : d
    · rw [if_pos h, if_pos h2, if_pos ⟨h, h2⟩]
    · rw [if_pos h, if_neg h2, if_neg (fun q => h2 q.2)]
  · rw [if_neg h, if_neg (fun q => h q.1)]
theorem btw_rng {α : Type} (x : Int32) (q : Nat) (A B : α) : (if x < 0 then B else (if x ≤ nI q then A else B)) = if btw x 0 q then A else B := by
  by_cases h1 : x < 0
  · rw [if_pos h1, if_neg (fun h => h.1 h1)]
  · rw [if_neg h1]
    by_cases h2 : nI q < x
    · rw [if_neg (Int32.not_le.mpr h2), if_neg (fun h => h.2 h2)]
    · rw [if_pos (Int32.not_lt.mp h2), if_pos ⟨h1, h2⟩]
theorem btw_rngL {α : Type} {q : Nat} (x : Int32) (A B : α) : (if x < 0 then B else (if x ≤ (OfNat.ofNat q : Int32) then A else B)) = if btw x 0 q then A else B := btw_rng x q A B
section
variable {x m : GW}
theorem m_isAhead {nc nr nk nl : Nat} (hi : Bi (m.1 1) nc nr nk nl) (c y : Int32) : F_X11_isAhead m c y = some (if gin c nk ∧ btw y 0 40 then 1 else 0) := by
  unfold F_X11_isAhead
  rw [m_isClerk hi, Option.bind_some, show F_X11_isFrom y.toInt64 (0 : Int64) (40 : Int64) = some (if btw y 0 40 then 1 else 0) from m_from y (p := 0) (q := 40) (by omega) (by omega), Option.bind_some, ite01, ite01]
  by_cases h : gin c nk
  · by_cases h2 : btw y 0 40
    · rw [if_pos h, if_pos h2, if_pos ⟨h, h2⟩]
    · rw [if_pos h, if_neg h2, if_neg (fun q => h2 q.2)]
  · rw [if_neg h, if_neg (fun q => h q.1)]
theorem s_status (h : RR x m) : F_X10_status x = F_X11_status m := congrArg some h.1.1
theorem s_top (h : RR x m) : F_X10_top x = F_X11_top m := congrArg some h.1.2.1
theorem s_bottom (h : RR x m) : F_X10_bottom x = F_X11_bottom m := congrArg some h.1.2.2
theorem s_fault (h : RR x m) (u : Int32) : F_X10_fault x u = F_X11_fault m u := by
  unfold F_X10_fault F_X11_fault
  rw [h.2.2.1.2.1, h.2.2.1.2.2]
theorem s_told (h : RR x m) (u : Int32) : Sm (F_X10_told u x) (F_X11_told u m) := by
  obtain ⟨nc, nr, nk, nl, hb, hi⟩ := h.bnk
  have hn := hi.cnt
  unfold F_X10_told F_X11_told F_X10_toldOf
  rw [show F_X10_between u (0 : Int32) (10 : Int32) = some (if btw u 0 10 then 1 else 0) from x_btw u 0 10, Option.bind_some, ite01]
  simp only [F_X10_answer, F_X10_refuse, F_X10_answerOrRefuse, F_X10_grant, F_X10_deny, F_X11_gives, F_X11_refuse, F_X11_orNone, F_X11_is, Option.bind_some, ite01]
  by_cases h0 : u = (0 : Int32)
  · subst h0
    rw [if_pos (by decide), if_pos rfl, if_pos rfl, if_pos (by decide)]
    rw [show x.1 14 3 = m.1 1 0 from hb.n0.trans hi.n0.symm]
    exact Sm.fin h _ _
  by_cases h1 : u = (1 : Int32)
  · subst h1
    simp only [h0, if_true, if_false]
    rw [if_pos (by decide), if_pos (by decide), show x.1 14 4 = m.1 1 1 from hb.n1.trans hi.n1.symm]
    exact Sm.fin h _ _
  by_cases h2 : u = (2 : Int32)
  · subst h2
    simp only [h0, h1, if_true, if_false]
    rw [if_pos (by decide), if_pos (by decide), show x.1 14 5 = m.1 1 2 from hb.n2.trans hi.n2.symm]
    exact Sm.fin h _ _
  by_cases h3 : u = (3 : Int32)
  · subst h3
    simp only [h0, h1, h2, if_true, if_false]
    rw [if_pos (by decide), if_pos (by decide), show x.1 14 6 = m.1 1 3 from hb.n3.trans hi.n3.symm]
    exact Sm.fin h _ _
  by_cases h4 : u = (4 : Int32)
  · subst h4
    simp only [h0, h1, h2, h3, if_true, if_false]
    rw [if_pos (by decide), if_pos (by decide), show x.1 14 0 = m.1 1 4 from hb.odds]
    exact Sm.fin h _ _
  by_cases h5 : u = (5 : Int32)
  · subst h5
    simp only [h0, h1, h2, h3, h4, if_true, if_false]
    rw [if_pos (by decide), if_pos (by decide), show x.1 14 1 = m.1 1 5 from hb.cash]
    exact Sm.fin h _ _
  by_cases h6 : u = (6 : Int32)
  · subst h6
    simp only [h0, h1, h2, h3, h4, h5, if_true, if_false]
    rw [if_pos (by decide), if_pos (by decide), show x.1 14 2 = m.1 1 6 from hb.year]
    exact Sm.fin h _ _
  by_cases h7 : u = (7 : Int32)
  · subst h7
    simp only [h0, h1, h2, h3, h4, h5, h6, if_true, if_false]
    rw [if_pos (by decide), x_unpaid_all hb hi, show F_X11_together m (6 : Int32) = _ from m_together hi (j := 6) (by omega)]
    exact Sm.fin h _ _
  by_cases h8 : u = (8 : Int32)
  · subst h8
    simp only [h0, h1, h2, h3, h4, h5, h6, h7, if_true, if_false]
    rw [if_pos (by decide), x_paid_all hb hi, show F_X11_together m (5 : Int32) = _ from m_together hi (j := 5) (by omega)]
    exact Sm.fin h _ _
  by_cases h9 : u = (9 : Int32)
  · subst h9
    simp only [h0, h1, h2, h3, h4, h5, h6, h7, h8, if_true, if_false]
    rw [if_pos (by decide), x_grey_all hb hi, show F_X11_together m (2 : Int32) = _ from m_together hi (j := 2) (by omega)]
    exact Sm.fin h _ _
  by_cases h10 : u = (10 : Int32)
  · subst h10
    simp only [h0, h1, h2, h3, h4, h5, h6, h7, h8, h9, if_true, if_false]
    rw [if_pos (by decide), show F_X0_sumOf (gsub x e_shX_shB_14) (255 : Int32) = _ from x_sumOf hb hi (s := 255) (by omega), show F_X11_sumsOf m (255 : Int32) = _ from m_sumsOf hi (s := 255) (by omega)]
    exact Sm.fin h _ _
  · simp only [h0, h1, h2, h3, h4, h5, h6, h7, h8, h9, h10, if_false]
    rw [if_neg (fun q => by
      obtain ⟨j, _, hj, rfl⟩ := btw_of q (by omega) (by omega)
      have : j = 0 ∨ j = 1 ∨ j = 2 ∨ j = 3 ∨ j = 4 ∨ j = 5 ∨ j = 6 ∨ j = 7 ∨ j = 8 ∨ j = 9 ∨ j = 10 := by omega
      rcases this with rfl | rfl | rfl | rfl | rfl | rfl | rfl | rfl | rfl | rfl | rfl
      · exact h0 rfl
      · exact h1 rfl
      · exact h2 rfl
      · exact h3 rfl
      · exact h4 rfl
      · exact h5 rfl
      · exact h6 rfl
      · exact h7 rfl
      · exact h8 rfl
      · exact h9 rfl
      · exact h10 rfl)]
    exact Sm.fin h _ _
theorem Sm.orNone (h : RR x m) (r : Int32) : Sm (if r = (-1 : Int32) then some ((-1 : Int32), gI x 0 15 6) else some (r, gI x 0 15 0)) (if r = (-1 : Int32) then some ((-1 : Int32), gI m 0 2 6) else some (r, gI m 0 2 0)) := by
  by_cases e : r = (-1 : Int32)
  · rw [if_pos e, if_pos e]; exact Sm.fin h _ _
  · rw [if_neg e, if_neg e]; exact Sm.fin h _ _
theorem Sm.orb (h : RR x m) (r : Int32) : Sm ((if r = (-1 : Int32) then some ((-1 : Int32), gI x 0 15 6) else some (r, gI x 0 15 0)).bind fun q => some (q.1, q.2)) ((if r = (-1 : Int32) then some ((-1 : Int32), gI m 0 2 6) else some (r, gI m 0 2 0)).bind fun q => some (q.1, q.2)) := by
  by_cases e : r = (-1 : Int32)
  · rw [if_pos e, if_pos e]; exact Sm.fin h _ _
  · rw [if_neg e, if_neg e]; exact Sm.fin h _ _
theorem s_corner (h : RR x m) (u v : Int32) : Sm (F_X10_corner u v x) (F_X11_corner u v m) := by
  obtain ⟨nc, nr, nk, nl, hb, hi⟩ := h.bnk
  have hn := hi.cnt
  unfold F_X10_corner F_X11_corner f_X10_corner_20 f_X11_corner_17
  rw [x_hasCorner hb hi, m_isCorner hi, show F_X10_between v (0 : Int32) (1 : Int32) = some (if btw v 0 1 then 1 else 0) from x_btw v 0 1]
  simp only [F_X10_answer, F_X10_refuse, F_X10_answerOrRefuse, F_X10_grant, F_X10_deny, F_X11_gives, F_X11_refuse, F_X11_orNone, F_X11_is, Option.bind_some, ite01]
  rw [btw_rngL (q := 1)]
  by_cases hu : gin u nc
  · obtain ⟨j, hj, rfl⟩ := gin_of hu (by omega)
    rw [if_pos hu, if_pos hu]
    by_cases hv : btw v 0 1
    · rw [if_pos hv, if_pos hv]
      by_cases h0 : v = 0
      · rw [if_pos h0, if_pos h0, if_pos (gin_nI (by omega) (by omega)), nI_clamp (by omega), m_stillOf (by omega), Option.bind_some, show x.1 15 j = m.1 1 (10 + j) from hb.still hj]
        exact Sm.fin h _ _
      · rw [if_neg h0, if_neg h0, x_sitter hb hi, m_sitter hi, Option.bind_some, Option.bind_some]
        exact Sm.orb h _
    · rw [if_neg hv, if_neg hv]; exact Sm.fin h _ _
  · rw [if_neg hu, if_neg hu]; exact Sm.fin h _ _
end
