/-! More methods that only tell. -/
section
variable {x m : GW}
theorem s_rank (h : RR x m) (u v : Int32) : Sm (F_X10_rank u v x) (F_X11_rank u v m) := by
  obtain ⟨nc, nr, nk, nl, hb, hi⟩ := h.bnk
  have hn := hi.cnt
  unfold F_X10_rank F_X11_rank f_X10_rank_20 f_X11_rank_17 f_X11_rank_48
  rw [x_hasRank hb hi, m_isRank hi, show F_X10_between v (0 : Int32) (2 : Int32) = some (if btw v 0 2 then 1 else 0) from x_btw v 0 2]
  simp only [F_X10_answer, F_X10_refuse, F_X10_answerOrRefuse, F_X10_grant, F_X10_deny, F_X11_gives, F_X11_refuse, F_X11_orNone, F_X11_is, Option.bind_some, ite01]
  rw [btw_rngL (q := 2)]
  by_cases hu : gin u nr
  · obtain ⟨j, hj, rfl⟩ := gin_of hu (by omega)
    rw [if_pos hu, if_pos hu]
    by_cases hv : btw v 0 2
    · rw [if_pos hv, if_pos hv]
      obtain ⟨i, _, hi2, rfl⟩ := btw_of hv (by omega) (by omega)
      rw [if_pos (gin_nI (by omega) (by omega)), if_pos (gin_nI (by omega) (by omega)), nI_clamp (by omega), m_rankRow, Option.bind_some, nI_add, if_pos (gin_nI (by omega) (by omega)), nI_clamp (by omega), x_ofRank hb hi, m_ofRank hi, Option.bind_some, Option.bind_some]
      have : i = 0 ∨ i = 1 ∨ i = 2 := by omega
      rcases this with rfl | rfl | rfl
      · rw [if_pos (by decide), if_neg (by decide), show x.1 16 j = m.1 1 (17 + 2 * j) from hb.at hj]
        exact Sm.fin h _ _
      · rw [if_neg (by decide), if_pos (by decide), if_neg (by decide), show x.1 17 j = m.1 1 (17 + 2 * j + 1) from hb.pay hj]
        exact Sm.fin h _ _
      · rw [if_neg (by decide), if_neg (by decide), if_pos (by decide)]
        exact Sm.fin h _ _
    · rw [if_neg hv, if_neg hv]; exact Sm.fin h _ _
  · rw [if_neg hu, if_neg hu]; exact Sm.fin h _ _
theorem s_clerk (h : RR x m) (u v : Int32) : Sm (F_X10_clerk u v x) (F_X11_clerk u v m) := by
  obtain ⟨nc, nr, nk, nl, hb, hi⟩ := h.bnk
  have hn := hi.cnt
  unfold F_X10_clerk F_X11_clerk f_X10_clerk_21 f_X11_clerk_18 f_X11_clerk_44
  rw [x_hasClerk hb hi, m_isClerk hi, show F_X10_between v (0 : Int32) (6 : Int32) = some (if btw v 0 6 then 1 else 0) from x_btw v 0 6]
  simp only [F_X10_answer, F_X10_refuse, F_X10_answerOrRefuse, F_X10_grant, F_X10_deny, F_X11_gives, F_X11_refuse, F_X11_orNone, F_X11_is, Option.bind_some, ite01]
  rw [btw_rngL (q := 6)]
  by_cases hu : gin u nk
  · obtain ⟨j, hj, rfl⟩ := gin_of hu (by omega)
    rw [if_pos hu, if_pos hu]
    by_cases hv : btw v 0 6
    · rw [if_pos hv, if_pos hv]
      obtain ⟨i, _, hi2, rfl⟩ := btw_of hv (by omega) (by omega)
      rw [m_clerkOf (by omega) (by omega), m_looksOf (by omega), x_looksOf hb hi hj]
      simp only [if_pos (gin_nI (show j < 6 by omega) (by omega)), nI_clamp (show j < 2 ^ 31 by omega), Option.bind_some]
      have : i = 0 ∨ i = 1 ∨ i = 2 ∨ i = 3 ∨ i = 4 ∨ i = 5 ∨ i = 6 := by omega
      rcases this with rfl | rfl | rfl | rfl | rfl | rfl | rfl
      · rw [if_pos (by decide), if_neg (by decide), show x.1 19 j = m.1 1 (27 + 7 * j) from hb.seat hj]
        exact Sm.fin h _ _
      · rw [if_neg (by decide), if_pos (by decide), if_neg (by decide), show x.1 20 j = m.1 1 (27 + 7 * j + 1) from hb.served hj]
        exact Sm.fin h _ _
      · rw [if_neg (by decide), if_neg (by decide), if_pos (by decide), if_neg (by decide), show x.1 21 j = m.1 1 (27 + 7 * j + 2) from hb.grey hj]
        exact Sm.fin h _ _
      · rw [if_neg (by decide), if_neg (by decide), if_neg (by decide), if_pos (by decide), if_neg (by decide), show x.1 22 j = m.1 1 (27 + 7 * j + 3) from hb.sham hj]
        exact Sm.fin h _ _
      · rw [if_neg (by decide), if_neg (by decide), if_neg (by decide), if_neg (by decide), if_pos (by decide), if_pos (by decide)]
        exact Sm.fin h _ _
      · rw [if_neg (by decide), if_neg (by decide), if_neg (by decide), if_neg (by decide), if_neg (by decide), if_pos (by decide), if_neg (by decide), show x.1 23 j = m.1 1 (27 + 7 * j + 5) from hb.paid hj]
        exact Sm.fin h _ _
      · rw [if_neg (by decide), if_neg (by decide), if_neg (by decide), if_neg (by decide), if_neg (by decide), if_neg (by decide), if_neg (by decide), show x.1 24 j = m.1 1 (27 + 7 * j + 6) from hb.unpaid hj]
        exact Sm.fin h _ _
    · rw [if_neg hv, if_neg hv]; exact Sm.fin h _ _
  · rw [if_neg hu, if_neg hu]; exact Sm.fin h _ _
theorem s_rankOf (h : RR x m) (u : Int32) : Sm (F_X10_rankOf u x) (F_X11_rankOf u m) := by
  obtain ⟨nc, nr, nk, nl, hb, hi⟩ := h.bnk
  have hn := hi.cnt
  unfold F_X10_rankOf F_X11_rankOf
  rw [x_hasClerk hb hi, m_isClerk hi]
  simp only [F_X10_answer, F_X10_refuse, F_X10_answerOrRefuse, F_X10_grant, F_X10_deny, F_X11_gives, F_X11_refuse, F_X11_orNone, F_X11_is, Option.bind_some, ite01]
  by_cases hu : gin u nk
  · obtain ⟨j, hj, rfl⟩ := gin_of hu (by omega)
    rw [if_pos hu, if_pos hu, x_looksOf hb hi hj, m_looksOf (by omega), Option.bind_some, Option.bind_some, x_rankBy hb hi, m_rankBy hi, Option.bind_some, Option.bind_some]
    exact Sm.orb h _
  · rw [if_neg hu, if_neg hu]; exact Sm.fin h _ _
theorem s_client (h : RR x m) (u v : Int32) : Sm (F_X10_client u v x) (F_X11_client u v m) := by
  obtain ⟨nc, nr, nk, nl, hb, hi⟩ := h.bnk
  have hn := hi.cnt
  have hg := has_iff u nl (by omega)
  unfold F_X10_client F_X11_client f_X10_client_20 f_X10_client_52 f_X11_client_23
  rw [x_hasClient hb hi, hi.n3, show F_X10_between v (0 : Int32) (1 : Int32) = some (if btw v 0 1 then 1 else 0) from x_btw v 0 1]
  simp only [F_X10_answer, F_X10_refuse, F_X10_answerOrRefuse, F_X10_grant, F_X10_deny, F_X11_gives, F_X11_refuse, F_X11_orNone, F_X11_is, Option.bind_some, ite01]
  rw [btw_rngL (q := 1)]
  by_cases hu : gin u nl
  · obtain ⟨j, hj, rfl⟩ := gin_of hu (by omega)
    rw [if_pos hu, if_neg (nI_pos (by omega)), if_neg (nI_ge hj (by omega))]
    by_cases hv : btw v 0 1
    · rw [if_pos hv, if_pos hv]
      obtain ⟨i, _, hi2, rfl⟩ := btw_of hv (by omega) (by omega)
      rw [if_pos (gin_nI (by omega) (by omega)), if_pos (gin_nI (by omega) (by omega)), nI_clamp (by omega), m_clientRow, Option.bind_some, nI_add, if_pos (gin_nI (by omega) (by omega)), nI_clamp (by omega)]
      have : i = 0 ∨ i = 1 := by omega
      rcases this with rfl | rfl
      · rw [if_pos (by decide), show x.1 25 j = m.1 1 (69 + 2 * j) from hb.sum hj]
        exact Sm.fin h _ _
      · rw [if_neg (by decide), show x.1 26 j = m.1 1 (69 + 2 * j + 1) from hb.nerve hj]
        exact Sm.fin h _ _
    · rw [if_neg hv, if_neg hv]; exact Sm.fin h _ _
  · rw [if_neg hu]
    by_cases h0 : u < 0
    · rw [if_pos h0]; exact Sm.fin h _ _
    · rw [if_neg h0]
      by_cases h1 : nI nl ≤ u
      · rw [if_pos h1]; exact Sm.fin h _ _
      · rw [if_neg h0, if_neg h1, if_neg hu] at hg
        cases hg
theorem s_greyIn (h : RR x m) (u v : Int32) : Sm (F_X10_greyIn u v x) (F_X11_greyIn u v m) := by
  obtain ⟨nc, nr, nk, nl, hb, hi⟩ := h.bnk
  have hn := hi.cnt
  unfold F_X10_greyIn F_X11_greyIn f_X10_greyIn_19
  rw [x_hasClerk hb hi, m_isAhead hi, x_isYears]
  simp only [F_X10_answer, F_X10_refuse, F_X10_answerOrRefuse, F_X10_grant, F_X10_deny, F_X11_gives, F_X11_refuse, F_X11_orNone, F_X11_is, Option.bind_some, ite01]
  rw [if_and]
  by_cases hu : gin u nk ∧ btw v 0 40
  · obtain ⟨j, hj, rfl⟩ := gin_of hu.1 (by omega)
    rw [if_pos hu, if_pos hu, x_staying hb hi hj, m_greyThen hi hj]
    exact Sm.fin h _ _
  · rw [if_neg hu, if_neg hu]; exact Sm.fin h _ _
theorem s_rankIn (h : RR x m) (u v : Int32) : Sm (F_X10_rankIn u v x) (F_X11_rankIn u v m) := by
  obtain ⟨nc, nr, nk, nl, hb, hi⟩ := h.bnk
  have hn := hi.cnt
  unfold F_X10_rankIn F_X11_rankIn f_X10_rankIn_19 F_X11_looksThen
  rw [x_hasClerk hb hi, m_isAhead hi, x_isYears]
  simp only [F_X10_answer, F_X10_refuse, F_X10_answerOrRefuse, F_X10_grant, F_X10_deny, F_X11_gives, F_X11_refuse, F_X11_orNone, F_X11_is, Option.bind_some, ite01]
  rw [if_and]
  by_cases hu : gin u nk ∧ btw v 0 40
  · obtain ⟨j, hj, rfl⟩ := gin_of hu.1 (by omega)
    rw [if_pos hu, if_pos hu, x_staying hb hi hj, m_greyThen hi hj, m_clerk3 (by omega), Option.bind_some, Option.bind_some, Option.bind_some, Option.bind_some, if_pos (gin_nI (by omega) (by omega)), nI_clamp (by omega), x_looksBy, Option.bind_some, x_rankBy hb hi, m_rankBy hi, show x.1 22 j = m.1 1 (27 + 7 * j + 3) from hb.sham hj, Option.bind_some, Option.bind_some]
    exact Sm.orb h _
  · rw [if_neg hu, if_neg hu]; exact Sm.fin h _ _
theorem s_leastFan (h : RR x m) (u v : Int32) : Sm (F_X10_leastFan u v x) (F_X11_leastFan u v m) := by
  obtain ⟨nc, nr, nk, nl, hb, hi⟩ := h.bnk
  have hn := hi.cnt
  unfold F_X10_leastFan F_X11_leastFan f_X10_leastFan_22 f_X11_leastFan_16
  rw [x_hasClerk hb hi, m_isClerk hi, x_hasRank hb hi, m_isRank hi]
  simp only [F_X10_answer, F_X10_refuse, F_X10_answerOrRefuse, F_X10_grant, F_X10_deny, F_X11_gives, F_X11_refuse, F_X11_orNone, F_X11_is, Option.bind_some, ite01]
  rw [if_and, if_and]
  by_cases hu : gin u nk ∧ gin v nr
  · obtain ⟨j, hj, rfl⟩ := gin_of hu.1 (by omega)
    obtain ⟨i, hi2, rfl⟩ := gin_of hu.2 (by omega)
    rw [if_pos hu, if_pos hu, if_pos (gin_nI (by omega) (by omega)), nI_clamp (by omega), x_looksOf hb hi hj, m_looksOf (by omega), m_rankRow, Option.bind_some, Option.bind_some, if_pos (gin_nI (by omega) (by omega)), nI_clamp (by omega), Option.bind_some, show x.1 16 i = m.1 1 (17 + 2 * i) from hb.at hi2]
    exact Sm.fin h _ _
  · rw [if_neg hu, if_neg hu]; exact Sm.fin h _ _
theorem s_comes (h : RR x m) : Sm (F_X10_comes x) (F_X11_comes m) := by
  obtain ⟨nc, nr, nk, nl, hb, hi⟩ := h.bnk
  have hn := hi.cnt
  unfold F_X10_comes F_X11_comes
  rw [show (0 : Int32) = nI 0 from rfl, x_coming hb hi (Nat.two_pow_pos nl), m_coming hi (Nat.two_pow_pos nl)]
  exact Sm.fin h _ _
theorem s_comesFor (h : RR x m) : Sm (F_X10_comesFor x) (F_X11_comesFor m) := by
  obtain ⟨nc, nr, nk, nl, hb, hi⟩ := h.bnk
  have hn := hi.cnt
  have h8 := p256 hn.2.2.2
  have hs := sCo_small (m.1 1) nl 0
  unfold F_X10_comesFor F_X11_comesFor
  rw [show (0 : Int32) = nI 0 from rfl, x_coming hb hi (Nat.two_pow_pos nl), m_coming hi (Nat.two_pow_pos nl), Option.bind_some, Option.bind_some, x_sumOf hb hi (by omega), m_sumsOf hi (by omega)]
  exact Sm.fin h _ _
theorem s_calms (h : RR x m) : Sm (F_X10_calms x) (F_X11_calms m) := by
  obtain ⟨nc, nr, nk, nl, hb, hi⟩ := h.bnk
  have hn := hi.cnt
  have h8 := p256 hn.2.2.2
  obtain ⟨j, h1, h2, h3⟩ := calm_both hb hi
  unfold F_X10_calms F_X11_calms
  rw [h2, h3, Option.bind_some, Option.bind_some, bc_eq (by omega), m_bits (by omega)]
  exact Sm.fin h _ _
theorem s_calmSet (h : RR x m) : Sm (F_X10_calmSet x) (F_X11_calmSet m) := by
  obtain ⟨nc, nr, nk, nl, hb, hi⟩ := h.bnk
  obtain ⟨j, h1, h2, h3⟩ := calm_both hb hi
  unfold F_X10_calmSet F_X11_calmSet
  rw [h2, h3]
  exact Sm.fin h _ _
end
